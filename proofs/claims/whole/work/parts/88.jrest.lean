/-! miss, keep, without: both -/
theorem j_miss {Z : q_Z} {M : q_C} {z : Nat} {W : q_W} (h : JW Z M z W) (v1 v2 : Int32) : ∃ (r : Int32) (M' M'' : q_C) (W' : q_W), fX6_miss z v1 v2 Z M = some (r, M') ∧ fX7_miss (z + 35) v1 v2 Z M' = some (r, M'') ∧ JW Z M'' z W' := by
  obtain ⟨hB, hM, hW⟩ := id h
  have h12 := hW.2.1.1
  obtain ⟨hz, _, _, hg, _⟩ := id hB.1
  obtain ⟨mz, _, _, mg, _⟩ := id hM.1
  rcases hW.sin v1 with s1 | ⟨i, hi, rfl⟩
  · refine ⟨-1, M, M, W, ?_, ?_, h⟩
    · unfold fX6_miss fX6_miss_b21
      rw [q_gdk hz.1, e_sightOf0 hz hg s1, q_bis, q_onn]
    · unfold fX7_miss fX7_miss_b19
      rw [q_gdk mz.1, e_isSg mz mg, q_bis, bi_if, if_neg (fun q => q s1)]
  · by_cases hc : (0 : Int32) ≤ v2 ∧ v2 ≤ 1000
    · have t5 := (iw_i (x := 0) (y := 1000) rfl rfl).mp hc
      have zs := (hz.2.2.2.2.2.2.2.2 i (by omega)).2
      have os := hW.2.1.2 i hi
      have okW' : okW (sgW W W.n (sgU W.sg i (fun k => if k = 4 then v2 else W.sg i k))) := by
        refine hW.sgn h12 (by omega) (fun j hj => ?_) (fun j hj => ?_)
        · unfold sgU
          by_cases q : j = i
          · rw [if_pos q]; exact ⟨os.1, os.2.1, os.2.2.1, os.2.2.2.1, os.2.2.2.2.1, t5⟩
          · rw [if_neg q]; exact hW.2.1.2 j hj
        · unfold sgU
          by_cases q : j = i
          · rw [if_pos q, q]; exact ⟨rfl, rfl⟩
          · rw [if_neg q]; exact ⟨rfl, rfl⟩
      have a1 : q_ag (fun a => a ≠ z + 23 + i) M (sI M (z + 23 + i) 4 v2) := agn_I q_ag.rf _ _
      have hB' : BW Z (sI M (z + 23 + i) 4 v2) z (sgW W W.n (sgU W.sg i (fun k => if k = 4 then v2 else W.sg i k))) := by
        refine hB.si hW.kl (a1.wk (fun a q => by omega)) rfl h12 ?_ (fun q hq => a1.I (by omega) q) (fun j hj k hk => ?_)
        · rw [a1.I (by omega)]; exact hg.2.1
        · unfold sgU
          by_cases q : j = i
          · rw [if_pos q, q]
            by_cases q4 : k = 4
            · rw [q4, gI_same, if_pos rfl]
            · rw [gI_k _ _ _ _ q4, if_neg q4]; exact hg.2.2 i hi k hk
          · rw [if_neg q, gI_a _ _ _ _ (by omega)]; exact hg.2.2 j hj k hk
      generalize hM1 : sI M (z + 23 + i) 4 v2 = M1 at a1 hB'
      have hm1 : MW Z M1 (z + 35) W := hM.ag zx.rf (a1.wk (fun a q => by omega))
      obtain ⟨nz, _, _, ng, _⟩ := id hm1.1
      obtain ⟨o1, o2⟩ := M_sg.at (k := 4) nz ng hi (by decide)
      have oc : ((5 : Int32) * nI i + nI 4).toNatClampNeg = 5 * i + 4 := by rw [i_5, nI_clamp (by omega)]
      rw [show nI 4 = (4 : Int32) from rfl] at o1 o2 oc
      have a2 : q_ag (fun a => a ≠ z + 35 + 1 + 6) M1 (sI M1 (z + 35 + 1 + 6) (5 * i + 4) v2) := agn_I q_ag.rf _ _
      refine ⟨W.sg i 4, M1, sI M1 (z + 35 + 1 + 6) (5 * i + 4) v2, _, ?_, ?_, h.st hB' (a1.wk (fun a q => by omega)) (fun hm => hm.si (a2.wk (fun a q => by omega)) rfl h12 ?_ (fun q hq => a2.I (by omega) q) (fun j hj k hk => ?_)) (a2.wk (fun a q => by omega)) okW'⟩
      · unfold fX6_miss
        rw [q_gdk hz.1, e_sightOf hz hg hi, q_bis, q_ons, e_isWithin, q_bis, bi_if, if_pos hc, q_gdk zs]
        simp only [q_nm]
        rw [hg.2.2 i hi 4 (by decide), hM1]
      · unfold fX7_miss
        rw [q_gdk nz.1, e_isSg nz ng, q_bis, bi_if, if_pos (hW.sno hi), e_is, q_bis, bi_if, if_pos hc, nz.a (f := 7) (k := 6) (by decide) rfl, q_bis, q_gdc o1]
        simp only [q_nm]
        rw [o2, q_bis, q_gdc o1, oc]
      · rw [a2.I (by omega)]; exact ng.2.1
      · unfold sgU
        show gI (sI M1 (z + 35 + 7) (5 * i + 4) v2) (z + 35 + 7) (5 * j + k) = _
        by_cases q : j = i
        · rw [if_pos q, q]
          by_cases q4 : k = 4
          · rw [q4, gI_same, if_pos rfl]
          · rw [gI_k _ _ _ _ (by omega), if_neg q4]; exact ng.2.2 i hi k hk
        · rw [if_neg q, gI_k _ _ _ _ (by omega)]; exact ng.2.2 j hj k hk
    · refine ⟨-1, M, M, W, ?_, ?_, h⟩
      · unfold fX6_miss fX6_miss_b21
        rw [q_gdk hz.1, e_sightOf hz hg hi, q_bis, q_ons, e_isWithin, q_bis, bi_if, if_neg hc]
      · unfold fX7_miss fX7_miss_b19
        rw [q_gdk mz.1, e_isSg mz mg, q_bis, bi_if, if_pos (hW.sno hi), e_is, q_bis, bi_if, if_neg hc]
theorem j_keep {Z : q_Z} {M : q_C} {z : Nat} {W : q_W} (h : JW Z M z W) : ∃ (r : Int32) (Z' : q_Z) (M' M'' : q_C) (W' : q_W), fX6_keep z Z M = some (r, Z', M') ∧ fX7_keep (z + 35) Z' M' = some (r, M'') ∧ JW Z' M'' z W' := by
  obtain ⟨hB, hM, hW⟩ := id h
  cases hp : W.ba with
  | none => exact ⟨-1, Z, M, M, W, e_keepC0 hB hW hp, e_keepM0 hM hp, h⟩
  | some p =>
    obtain ⟨Z', M', a1, a2, a3, a4⟩ := e_keepC hB hW hp
    obtain ⟨M'', b1, b2, b3⟩ := e_keepM (hM.ag a3 a4) hW hp
    exact ⟨_, Z', M', M'', kpW W p, a1, b1, a2.ag (hW.kp hp) (b3.wk (fun a q => by omega)), b2, hW.kp hp⟩
theorem j_without {Z : q_Z} {M : q_C} {z : Nat} {W : q_W} (h : JW Z M z W) (v : Int32) : ∃ (r : Int32) (M' M'' : q_C), fX6_without z v Z M = some (r, Z, M') ∧ fX7_without (z + 35) v Z M' = some (r, M'') ∧ JW Z M'' z W := by
  obtain ⟨hB, hM, hW⟩ := id h
  obtain ⟨M', a1, a2, a3⟩ := e_withC hB hW v
  obtain ⟨M'', b1, b2, b3⟩ := e_withM (hM.ag zx.rf a3) hW v
  exact ⟨_, M', M'', a1, b1, a2.ag hW (b3.wk (fun a q => by omega)), b2, hW⟩
/-! masses, round: both -/
def skW (W : q_W) (S : q_SK) : q_W := mkW S W.T W.n W.sg W.ba W.gF W.gB W.gN W.kd W.K W.t0 W.nr
theorem okW.sk {W : q_W} (hW : okW W) {S : q_SK} (hS : okSK S) : okW (skW W S) := ⟨⟨hS, hW.1.2⟩, hW.2⟩
theorem BW.ki {Z : q_Z} {M M' : q_C} {z : Nat} {W : q_W} {S : q_SK} (h : BW Z M z W) (hl : W.K.length ≤ 100) (ha : q_ag (fun a => ¬ (z + 1 ≤ a ∧ a ≤ z + 7)) M M') (er : M'.2.2 = M.2.2) (hS : B_sk M' (z + 1) S) : BW Z M' z (skW W S) := by
  obtain ⟨⟨h1, h2, h3, h4, h5, h6, h7, h8⟩, hR, hK⟩ := h
  have hi : ∀ k, gI M' z k = gI M z k := fun k => ha.I (by omega) k
  refine ⟨⟨h1.mv er, hS, h3.ag ha (fun i hi => by omega), h4.ag ha (by omega) (fun i hi => by omega), ?_, ?_, ?_, ?_⟩, hR.mv (fun a _ => by rw [er]), hK.ag hR hl ha (by omega) (fun a q => by omega)⟩
  · rw [hi, hi]; exact h5
  · rw [hi, hi, hi]; exact h6
  · rw [hi]; exact h7
  · rw [hi]; exact h8
theorem MW.ki {Z : q_Z} {M M' : q_C} {m : Nat} {W : q_W} {S : q_SK} (h : MW Z M m W) (ha : q_ag (fun a => a ≠ m + 1 ∧ a ≠ m + 2 ∧ a ≠ m + 5) M M') (er : M'.2.2 = M.2.2) (hS : M_sk M' m S) : MW Z M' m (skW W S) := by
  obtain ⟨⟨h1, h2, h3, h4, h5, h6, h7, h8, h9⟩, hK⟩ := h
  have hi : ∀ k, gI M' m k = gI M m k := fun k => ha.I (by omega) k
  refine ⟨⟨h1.mv er, hS, h3.ag ha (by omega) (by omega), ⟨h4.1, by rw [hi]; exact h4.2.1, fun i hi k hk => by rw [ha.I (by omega)]; exact h4.2.2 i hi k hk⟩, ?_, ?_, ?_, ?_, ?_⟩, hK.zi (fun q => ha.I (by omega) q) (fun q => ha.I (by omega) q) (fun a q q1 q2 => ha.J (by omega) q)⟩
  · rw [hi, hi]; exact h5
  · rw [hi, hi, hi]; exact h6
  · rw [hi]; exact h7
  · rw [hi]; exact h8
  · rw [hi]; exact h9
theorem j_masses {Z : q_Z} {M : q_C} {z : Nat} {W : q_W} (h : JW Z M z W) (v1 v2 : Int32) : ∃ (r : Int32) (M' M'' : q_C) (W' : q_W), fX6_masses z v1 v2 Z M = some (r, M') ∧ fX7_masses (z + 35) v1 v2 Z M' = some (r, M'') ∧ JW Z M'' z W' := by
  obtain ⟨hB, hM, hW⟩ := id h
  have hz := hB.1.1
  have hS := hB.1.2.1
  have mz := hM.1.1
  by_cases hc : ((0 : Int32) ≤ v1 ∧ v1 ≤ 1000000000) ∧ ((0 : Int32) ≤ v2 ∧ v2 ≤ 1000000000)
  · have a1 : q_ag (fun a => a ≠ z + 1) M (sJ (sJ M (z + 1) 2 v1.toInt64) (z + 1) 3 v2.toInt64) := agn_J (agn_J q_ag.rf _ _) _ _
    have hB' : BW Z (sJ (sJ M (z + 1) 2 v1.toInt64) (z + 1) 3 v2.toInt64) z (skW W (W.S.1, W.S.2.1, v1, v2)) := by
      refine hB.ki hW.kl (a1.wk (fun a q => by omega)) rfl ⟨hS.1.ag a1 (by omega) (by omega) (by omega), hS.2.1.ag a1 (by omega) (by omega) (by omega), ?_, ?_⟩
      · rw [gJ_k _ _ _ _ (by decide), gJ_same]
      · rw [gJ_same]
    generalize hM1 : sJ (sJ M (z + 1) 2 v1.toInt64) (z + 1) 3 v2.toInt64 = M1 at a1 hB'
    have hm1 : MW Z M1 (z + 35) W := hM.ag zx.rf (a1.wk (fun a q => by omega))
    have nz := hm1.1.1
    have o0 : q_ok Z (z + 35 + 1 + 4) 1 (0 : Int32) = true := q_okT (i := 0) (nz.k1 (k := 4) (by decide)) rfl (by decide) (by rw [nz.l (k := 4) (n := 2) (by decide) rfl]; decide)
    have o1 : q_ok Z (z + 35 + 1 + 4) 1 (1 : Int32) = true := q_okT (i := 1) (nz.k1 (k := 4) (by decide)) rfl (by decide) (by rw [nz.l (k := 4) (n := 2) (by decide) rfl]; decide)
    have a2 : q_ag (fun a => a ≠ z + 35 + 1 + 4) M1 (sI (sI M1 (z + 35 + 1 + 4) 0 v1) (z + 35 + 1 + 4) 1 v2) := agn_I (agn_I q_ag.rf _ _) _ _
    refine ⟨1, M1, sI (sI M1 (z + 35 + 1 + 4) 0 v1) (z + 35 + 1 + 4) 1 v2, _, ?_, ?_, h.st hB' (a1.wk (fun a q => by omega)) (fun hm => hm.ki (a2.wk (fun a q => by omega)) rfl ⟨hm.1.2.1.1.ag a2 (by omega) (by omega), hm.1.2.1.2.1.ag a2 (by omega) (by omega), ?_, ?_⟩) (a2.wk (fun a q => by omega)) (hW.sk ⟨hW.1.1.1, hW.1.1.2⟩)⟩
    · unfold fX6_masses
      rw [e_isWithin, q_bis, bi_if, if_pos hc.1, e_isWithin, q_bis, bi_if, if_pos hc.2, q_gdk hz.1, hz.2.1.1, q_bis, q_gdk hz.2.2.1.1]
      simp only [q_nm]
      rw [gR_sJ, hz.2.1.1, q_bis, q_gdk hz.2.2.1.1, q_gdc (by decide), hM1]
    · unfold fX7_masses
      rw [e_is, q_bis, bi_if, if_pos hc.1, e_is, q_bis, bi_if, if_pos hc.2, q_gdk nz.1, nz.a (f := 4) (k := 4) (by decide) rfl, q_bis, q_gdc o0]
      simp only [q_nm]
      rw [gR_sI, nz.a (f := 4) (k := 4) (by decide) rfl, q_bis, q_gdc o1, q_gdc (by decide)]
      rfl
    · show gI (sI (sI M1 (z + 35 + 5) 0 v1) (z + 35 + 5) 1 v2) (z + 35 + 5) 0 = v1
      rw [gI_k _ _ _ _ (by decide), gI_same]
    · show gI (sI (sI M1 (z + 35 + 5) 0 v1) (z + 35 + 5) 1 v2) (z + 35 + 5) 1 = v2
      rw [gI_same]
  · refine ⟨0, M, M, W, ?_, ?_, h⟩
    · unfold fX6_masses fX6_masses_b20
      rw [e_isWithin, q_bis, bi_if, e_isWithin, q_bis, bi_if]
      by_cases q1 : (0 : Int32) ≤ v1 ∧ v1 ≤ 1000000000
      · rw [if_pos q1, if_neg (fun q2 => hc ⟨q1, q2⟩), q_gdc (by decide)]
      · rw [if_neg q1, q_gdc (by decide)]
    · unfold fX7_masses fX7_masses_b20
      rw [e_is, q_bis, bi_if, e_is, q_bis, bi_if]
      by_cases q1 : (0 : Int32) ≤ v1 ∧ v1 ≤ 1000000000
      · rw [if_pos q1, if_neg (fun q2 => hc ⟨q1, q2⟩), q_gdc (by decide)]
      · rw [if_neg q1, q_gdc (by decide)]
/-- a table with a place more -/
def tbU (T : q_TB) (x y : Int32) : q_TB := (T.1 + 1, fun i => if i = T.1 then x else T.2.1 i, fun i => if i = T.1 then y else T.2.2 i)
theorem okTB.up {T : q_TB} (h : okTB T) (hl : T.1 < 40) {x y : Int32} (hx : -20000 ≤ x.toInt ∧ x.toInt ≤ 20000) (hy : -20000 ≤ y.toInt ∧ y.toInt ≤ 20000) : okTB (tbU T x y) := by
  refine ⟨by show T.1 + 1 ≤ 40; omega, fun i hi => ?_⟩
  have hi' : i < T.1 + 1 := hi
  show -20000 ≤ (if i = T.1 then x else T.2.1 i).toInt ∧ (if i = T.1 then x else T.2.1 i).toInt ≤ 20000 ∧ -20000 ≤ (if i = T.1 then y else T.2.2 i).toInt ∧ (if i = T.1 then y else T.2.2 i).toInt ≤ 20000
  by_cases q : i = T.1
  · rw [if_pos q, if_pos q]; exact ⟨hx.1, hx.2, hy.1, hy.2⟩
  · rw [if_neg q, if_neg q]; exact h.2 i (by omega)
theorem e_grow {Z : q_Z} {M : q_C} {h : Nat} {T : q_TB} (hz : zT Z M h) (hT : B_tb M h T) (hl : T.1 < 40) (x y : Int32) : ∃ M', fX4_grow h x y Z M = some (nI (T.1 + 1), M') ∧ B_tb M' h (tbU T x y) ∧ q_ag (fun a => ¬ (h ≤ a ∧ a ≤ h + 2)) M M' ∧ M'.2.2 = M.2.2 := by
  obtain ⟨z1, z2, z3, z4, z5, z6, z7⟩ := hz
  obtain ⟨b1, b2, b3⟩ := hT
  have o1 : q_ok Z (h + 1) 1 (nI T.1) = true := q_okT z4 rfl (by omega) (by omega)
  have o2 : q_ok Z (h + 2) 1 (nI T.1) = true := q_okT z6 rfl (by omega) (by omega)
  generalize hM1 : sI (sI M (h + 1) T.1 x) (h + 2) T.1 y = M1
  have e2 : gI M1 h 2 = nI T.1 := by rw [← hM1, gI_a _ _ _ _ (by omega), gI_a _ _ _ _ (by omega)]; exact b2
  refine ⟨sI M1 h 2 (nI (T.1 + 1)), ?_, ⟨by show T.1 + 1 ≤ 40; omega, gI_same _ _ _ _, fun i hi => ?_⟩, ?_, by rw [← hM1]; rfl⟩
  · unfold fX4_grow
    rw [q_gdk z1, b2, if_neg (nI_pos (by omega)), if_pos (show nI T.1 < (40 : Int32) from nI_lt (b := 40) hl (by omega)), z2, q_bis, q_gdc o1]
    simp only [q_nm]
    rw [gR_sI, z3, q_bis, gI_a _ _ _ _ (by omega), b2, q_gdc o2, nI_clamp (by omega), hM1, e2, nI_1, gI_same]
  · have hi' : i < T.1 + 1 := hi
    rw [gI_a _ _ _ _ (by omega), gI_a _ _ _ _ (by omega), ← hM1]
    show gI (sI (sI M (h + 1) T.1 x) (h + 2) T.1 y) (h + 1) i = (if i = T.1 then x else T.2.1 i) ∧ gI (sI (sI M (h + 1) T.1 x) (h + 2) T.1 y) (h + 2) i = (if i = T.1 then y else T.2.2 i)
    rw [gI_a _ _ _ _ (by omega)]
    by_cases q : i = T.1
    · rw [if_pos q, if_pos q, q, gI_same, gI_same]; exact ⟨rfl, rfl⟩
    · rw [if_neg q, if_neg q, gI_k _ _ _ _ q, gI_k _ _ _ _ q, gI_a _ _ _ _ (by omega)]
      exact b3 i (by omega)
  · rw [← hM1]
    exact ((q_ag.rf.sI (fun q => q ⟨by omega, by omega⟩) _ _).sI (fun q => q ⟨by omega, by omega⟩) _ _).sI (fun q => q ⟨by omega, by omega⟩) _ _
theorem e_grow0 {Z : q_Z} {M : q_C} {h : Nat} {T : q_TB} (hz : zT Z M h) (hT : B_tb M h T) (hl : ¬ T.1 < 40) (x y : Int32) : fX4_grow h x y Z M = some (-1, M) := by
  have := hT.1
  unfold fX4_grow fX4_grow_b16
  rw [q_gdk hz.1, hT.2.1, if_neg (nI_pos (by omega)), show T.1 = 40 by omega, if_neg (by decide)]
theorem e_rnd {Z : q_Z} {M : q_C} {m w : Nat} {T T' : q_TB} (hz : zM Z M m) (hw : w < 2) (hT : M_tb M (m + 1) (m + 2) w T) (hT' : M_tb M (m + 1) (m + 2) (1 - w) T') {x y : Int32} (hx : (-20000 : Int32) ≤ x ∧ x ≤ 20000) (hy : (-20000 : Int32) ≤ y ∧ y ≤ 20000) :
    (T.1 < 40 → ∃ M', fX7_round_b9 m x y (nI w) Z M = some (nI (T.1 + 1), M') ∧ M_tb M' (m + 1) (m + 2) w (tbU T x y) ∧ M_tb M' (m + 1) (m + 2) (1 - w) T' ∧ q_ag (fun a => a ≠ m + 1 ∧ a ≠ m + 2) M M' ∧ M'.2.2 = M.2.2) ∧ (¬ T.1 < 40 → fX7_round_b9 m x y (nI w) Z M = some (-1, M)) := by
  obtain ⟨b1, b2, b3⟩ := hT
  have om : q_ok Z (m + 1 + 0) 1 (nI w) = true := q_okT (hz.k1 (k := 0) (by decide)) rfl (by omega) (by rw [hz.l (k := 0) (n := 2) (by decide) rfl]; omega)
  have cw : (nI w).toNatClampNeg = w := nI_clamp (by omega)
  have b2' : gI M (m + 1 + 0) w = nI T.1 := b2
  constructor
  · intro hl
    have i1 : (80 : Int32) * nI w + (2 : Int32) * nI T.1 = nI (80 * w + 2 * T.1) := by rw [show (80 : Int32) = nI 80 from rfl, show (2 : Int32) = nI 2 from rfl, pk_mul, pk_mul, nI_add]
    have o1 : q_ok Z (m + 1 + 1) 1 (nI (80 * w + 2 * T.1)) = true := q_okT (hz.k1 (k := 1) (by decide)) rfl (by omega) (by rw [hz.l (k := 1) (n := 160) (by decide) rfl]; omega)
    have o2 : q_ok Z (m + 1 + 1) 1 (nI (80 * w + 2 * T.1 + 1)) = true := q_okT (hz.k1 (k := 1) (by decide)) rfl (by omega) (by rw [hz.l (k := 1) (n := 160) (by decide) rfl]; omega)
    generalize hM1 : sI (sI M (m + 1 + 1) (80 * w + 2 * T.1) x) (m + 1 + 1) (80 * w + 2 * T.1 + 1) y = M1
    have a1 : q_ag (fun a => a ≠ m + 1 + 1) M M1 := by rw [← hM1]; exact agn_I (agn_I q_ag.rf _ _) _ _
    have r1 : M1.2.2 = M.2.2 := by rw [← hM1]; rfl
    have e1 : gI M1 (m + 1 + 0) w = nI T.1 := by rw [a1.I (by omega)]; exact b2'
    have ra : ∀ M2 : q_C, M2.2.2 = M.2.2 → gR M2 m 0 = some (m + 1 + 0) := fun M2 e => (hz.mv e).a (f := 0) (k := 0) (by decide) rfl
    have rb : ∀ M2 : q_C, M2.2.2 = M.2.2 → gR M2 m 1 = some (m + 1 + 1) := fun M2 e => (hz.mv e).a (f := 1) (k := 1) (by decide) rfl
    have a2 : q_ag (fun a => a ≠ m + 1 ∧ a ≠ m + 2) M (sI M1 (m + 1 + 0) w (nI (T.1 + 1))) := (a1.wk (fun a q => by omega)).sI (fun q => q.1 rfl) _ _
    refine ⟨sI M1 (m + 1 + 0) w (nI (T.1 + 1)), ?_, ⟨by show T.1 + 1 ≤ 40; omega, gI_same _ _ _ _, fun i hi => ?_⟩, ⟨hT'.1, ?_, fun i hi => ?_⟩, a2, r1⟩
    · unfold fX7_round_b9
      rw [e_is, q_bis, bi_if, if_pos hx, e_is, q_bis, bi_if, if_pos hy, q_gdk hz.1, ra M rfl, q_bis, q_gdc om, cw, b2', if_neg (by rw [show (40 : Int32) = nI 40 from rfl, nI_eq (by omega) (by omega)]; omega), rb M rfl, q_bis, q_bis, q_gdc om, b2', i1, q_gdc o1]
      simp only [q_nm]
      rw [nI_clamp (by omega), gR_sI, rb M rfl, q_bis, gR_sI, ra M rfl, q_bis, q_gdc om, gI_a _ _ _ _ (by omega), b2', i1, nI_1, q_gdc o2, nI_clamp (by omega), hM1, ra M1 r1, q_bis, q_gdc om, q_gdc om, e1, nI_1, gR_sI, ra M1 r1, q_bis, q_gdc om, gI_same]
    · have hi' : i < T.1 + 1 := hi
      rw [gI_a _ _ _ _ (by omega), gI_a _ _ _ _ (by omega), ← hM1]
      show gI (sI (sI M (m + 2) (80 * w + 2 * T.1) x) (m + 2) (80 * w + 2 * T.1 + 1) y) (m + 2) (80 * w + 2 * i) = (if i = T.1 then x else T.2.1 i) ∧ gI (sI (sI M (m + 2) (80 * w + 2 * T.1) x) (m + 2) (80 * w + 2 * T.1 + 1) y) (m + 2) (80 * w + 2 * i + 1) = (if i = T.1 then y else T.2.2 i)
      by_cases q : i = T.1
      · rw [if_pos q, if_pos q, q, gI_same, gI_k _ _ _ _ (by omega), gI_same]; exact ⟨rfl, rfl⟩
      · rw [if_neg q, if_neg q, gI_k _ _ _ _ (by omega), gI_k _ _ _ _ (by omega), gI_k _ _ _ _ (by omega), gI_k _ _ _ _ (by omega)]
        exact b3 i (by omega)
    · rw [gI_k _ _ _ _ (by omega), a1.I (by omega)]; exact hT'.2.1
    · rw [gI_a _ _ _ _ (by omega), gI_a _ _ _ _ (by omega), ← hM1]
      show gI (sI (sI M (m + 2) (80 * w + 2 * T.1) x) (m + 2) (80 * w + 2 * T.1 + 1) y) (m + 2) (80 * (1 - w) + 2 * i) = T'.2.1 i ∧ gI (sI (sI M (m + 2) (80 * w + 2 * T.1) x) (m + 2) (80 * w + 2 * T.1 + 1) y) (m + 2) (80 * (1 - w) + 2 * i + 1) = T'.2.2 i
      have h40 := hT'.1
      rw [gI_k _ _ _ _ (by omega), gI_k _ _ _ _ (by omega), gI_k _ _ _ _ (by omega), gI_k _ _ _ _ (by omega)]
      exact hT'.2.2 i hi
  · intro hl
    unfold fX7_round_b9 fX7_round_b49
    rw [e_is, q_bis, bi_if, if_pos hx, e_is, q_bis, bi_if, if_pos hy, q_gdk hz.1, hz.a (f := 0) (k := 0) (by decide) rfl, q_bis, q_gdc om, cw, b2', show T.1 = 40 by omega, if_pos (show nI 40 = (40 : Int32) from rfl)]
theorem j_round {Z : q_Z} {M : q_C} {z : Nat} {W : q_W} (h : JW Z M z W) (v1 x y : Int32) : ∃ (r : Int32) (M' M'' : q_C) (W' : q_W), fX6_round z v1 x y Z M = some (r, M') ∧ fX7_round (z + 35) v1 x y Z M' = some (r, M'') ∧ JW Z M'' z W' := by
  obtain ⟨hB, hM, hW⟩ := id h
  have hz := hB.1.1
  have hS := hB.1.2.1
  have mz := hM.1.1
  have mS := hM.1.2.1
  by_cases hc : ((-20000 : Int32) ≤ x ∧ x ≤ 20000) ∧ ((-20000 : Int32) ≤ y ∧ y ≤ 20000)
  · obtain ⟨hx, hy⟩ := hc
    have tx := (iw_i (x := -20000) (y := 20000) rfl rfl).mp hx
    have ty := (iw_i (x := -20000) (y := 20000) rfl rfl).mp hy
    by_cases hv : v1 = 0
    · have preC : ∀ r M1, fX4_grow (z + 2) x y Z M = some (r, M1) → fX6_round z v1 x y Z M = some (r, M1) := by
        intro r M1 e
        unfold fX6_round fX6_round_b59
        rw [e_isWithin, q_bis, bi_if, if_pos hx, e_isWithin, q_bis, bi_if, if_pos hy, if_pos hv, q_gdk hz.1, hz.2.1.1, q_bis, q_gdk hz.2.2.1.1, hz.2.2.1.2.1, q_bis, q_gdk hz.2.2.1.2.2.2.1.1, show z + 1 + 1 = z + 2 from rfl, e, q_b2s]
      have preM : ∀ M1, fX7_round (z + 35) v1 x y Z M1 = fX7_round_b9 (z + 35) x y (nI 0) Z M1 := fun M1 => by
        unfold fX7_round
        rw [if_pos hv]
        rfl
      by_cases hl : W.S.1.1 < 40
      · obtain ⟨M1, a1, a2, a3, a4⟩ := e_grow (h := z + 2) hz.2.2.1.2.2.2.1 hS.1 hl x y
        have hB' : BW Z M1 z (skW W (tbU W.S.1 x y, W.S.2)) := hB.ki hW.kl (a3.wk (fun a q => by omega)) a4 ⟨a2, hS.2.1.ag a3 (by omega) (by omega) (by omega), by rw [a3.J (by omega)]; exact hS.2.2.1, by rw [a3.J (by omega)]; exact hS.2.2.2⟩
        have hm1 : MW Z M1 (z + 35) W := hM.ag zx.rf (a3.wk (fun a q => by omega))
        obtain ⟨M2, b1, b2, b3, b4, b5⟩ := (e_rnd (w := 0) hm1.1.1 (by decide) hm1.1.2.1.1 hm1.1.2.1.2.1 hx hy).1 hl
        refine ⟨nI (W.S.1.1 + 1), M1, M2, _, preC _ _ a1, (preM M1).trans b1, h.st hB' (a3.wk (fun a q => by omega)) (fun hm => hm.ki (b4.wk (fun a q => ⟨q.1, q.2.1⟩)) b5 ⟨b2, b3, ?_, ?_⟩) (b4.wk (fun a q => by omega)) (hW.sk ⟨hW.1.1.1.up hl tx ty, hW.1.1.2⟩)⟩
        · rw [b4.I (by omega)]; exact hm.1.2.1.2.2.1
        · rw [b4.I (by omega)]; exact hm.1.2.1.2.2.2
      · refine ⟨-1, M, M, W, preC _ _ (e_grow0 (h := z + 2) hz.2.2.1.2.2.2.1 hS.1 hl x y), (preM M).trans ((e_rnd (w := 0) mz (by decide) mS.1 mS.2.1 hx hy).2 hl), h⟩
    · have preC : ∀ r M1, fX4_grow (z + 5) x y Z M = some (r, M1) → fX6_round z v1 x y Z M = some (r, M1) := by
        intro r M1 e
        unfold fX6_round fX6_round_b59
        rw [e_isWithin, q_bis, bi_if, if_pos hx, e_isWithin, q_bis, bi_if, if_pos hy, if_neg hv, q_gdk hz.1, hz.2.1.1, q_bis, q_gdk hz.2.2.1.1, hz.2.2.1.2.2.1, q_bis, q_gdk hz.2.2.1.2.2.2.2.1, show z + 1 + 4 = z + 5 from rfl, e, q_b2s]
      have preM : ∀ M1, fX7_round (z + 35) v1 x y Z M1 = fX7_round_b9 (z + 35) x y (nI 1) Z M1 := fun M1 => by
        unfold fX7_round
        rw [if_neg hv]
        rfl
      by_cases hl : W.S.2.1.1 < 40
      · obtain ⟨M1, a1, a2, a3, a4⟩ := e_grow (h := z + 5) hz.2.2.1.2.2.2.2 hS.2.1 hl x y
        have hB' : BW Z M1 z (skW W (W.S.1, tbU W.S.2.1 x y, W.S.2.2)) := hB.ki hW.kl (a3.wk (fun a q => by omega)) a4 ⟨hS.1.ag a3 (by omega) (by omega) (by omega), a2, by rw [a3.J (by omega)]; exact hS.2.2.1, by rw [a3.J (by omega)]; exact hS.2.2.2⟩
        have hm1 : MW Z M1 (z + 35) W := hM.ag zx.rf (a3.wk (fun a q => by omega))
        obtain ⟨M2, b1, b2, b3, b4, b5⟩ := (e_rnd (w := 1) hm1.1.1 (by decide) hm1.1.2.1.2.1 hm1.1.2.1.1 hx hy).1 hl
        refine ⟨nI (W.S.2.1.1 + 1), M1, M2, _, preC _ _ a1, (preM M1).trans b1, h.st hB' (a3.wk (fun a q => by omega)) (fun hm => hm.ki (b4.wk (fun a q => ⟨q.1, q.2.1⟩)) b5 ⟨b3, b2, ?_, ?_⟩) (b4.wk (fun a q => by omega)) (hW.sk ⟨hW.1.1.1, hW.1.1.2.up hl tx ty⟩)⟩
        · rw [b4.I (by omega)]; exact hm.1.2.1.2.2.1
        · rw [b4.I (by omega)]; exact hm.1.2.1.2.2.2
      · refine ⟨-1, M, M, W, preC _ _ (e_grow0 (h := z + 5) hz.2.2.1.2.2.2.2 hS.2.1 hl x y), (preM M).trans ((e_rnd (w := 1) mz (by decide) mS.2.1 mS.1 hx hy).2 hl), h⟩
  · refine ⟨-1, M, M, W, ?_, ?_, h⟩
    · unfold fX6_round fX6_round_b26
      rw [e_isWithin, q_bis, bi_if, e_isWithin, q_bis, bi_if]
      by_cases q1 : (-20000 : Int32) ≤ x ∧ x ≤ 20000
      · rw [if_pos q1, if_neg (fun q2 => hc ⟨q1, q2⟩)]
      · rw [if_neg q1]
    · have b9 : ∀ w, fX7_round_b9 (z + 35) x y w Z M = some (-1, M) := by
        intro w
        unfold fX7_round_b9 fX7_round_b49
        rw [e_is, q_bis, bi_if, e_is, q_bis, bi_if]
        by_cases q1 : (-20000 : Int32) ≤ x ∧ x ≤ 20000
        · rw [if_pos q1, if_neg (fun q2 => hc ⟨q1, q2⟩)]
        · rw [if_neg q1]
      unfold fX7_round
      rw [b9, b9]
      split <;> rfl
