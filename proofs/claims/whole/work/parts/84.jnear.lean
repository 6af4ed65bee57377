/-! cells of the two objects themselves change -/
theorem BW.zi {Z : q_Z} {M M' : q_C} {z : Nat} {W W' : q_W} (h : BW Z M z W) (hl : W.K.length ≤ 100) (ha : q_ag (fun a => a ≠ z) M M') (er : M'.2.2 = M.2.2) (eS : W'.S = W.S) (eT : W'.T = W.T) (eK : W'.K = W.K) (et : W'.t0 = W.t0) (hn : W'.n ≤ W.n) (esg : ∀ i, i < W'.n → W'.sg i = W.sg i) (g3 : gI M' z 3 = nI W'.n) (g4 : gI M' z 4 = w_b1 W' ∧ gI M' z 5 = w_b2 W') (g6 : gI M' z 6 = W'.gF ∧ gI M' z 7 = W'.gB ∧ gI M' z 8 = nI W'.gN) (g10 : gI M' z 10 = w_kc W') (g11 : gI M' z 11 = W'.nr) : BW Z M' z W' := by
  obtain ⟨⟨h1, h2, h3, h4, _⟩, hR, hK⟩ := h
  have h12 := h4.1
  refine ⟨⟨h1.mv er, ?_, ?_, ⟨by omega, g3, fun i hi k hk => ?_⟩, g4, g6, g10, g11⟩, hR.mv (fun a _ => by rw [er]), ?_⟩
  · rw [eS]; exact h2.ag ha (fun i hi => by omega)
  · rw [eT]; exact h3.ag ha (fun i hi => by omega)
  · rw [ha.I (by omega), esg i hi]; exact h4.2.2 i (by omega) k hk
  · rw [eT, et, eK]; exact hK.ag hR hl ha (by omega) (fun a q => by omega)
theorem M_kp.zi {M M' : q_C} {m : Nat} {S : q_SK} {t0 : Int} {K : List (Nat × Nat × q_cs)} (h : M_kp M m S t0 K) (e8 : ∀ q, gI M' (m + 8) q = gI M (m + 8) q) (e9 : ∀ q, gI M' (m + 9) q = gI M (m + 9) q) (ej : ∀ a q, m + 10 ≤ a → a ≤ m + 13 → gJ M' a q = gJ M a q) : M_kp M' m S t0 K := by
  intro k x hx
  obtain ⟨w1, w2, lo, hi2, b1, b2, b3, b4, b5, b6, b7⟩ := h k x hx
  refine ⟨by rw [e8]; exact w1, by rw [e8]; exact w2, lo, hi2, b1, b2, b3, b4, by rw [e9]; exact b5, by rw [e9]; exact b6, fun u q1 q2 => ⟨(b7 u q1 q2).1, fun c hc => ?_⟩⟩
  unfold st4
  rw [ej _ _ (by omega) (by omega), ej _ _ (by omega) (by omega), ej _ _ (by omega) (by omega), ej _ _ (by omega) (by omega)]
  exact (b7 u q1 q2).2 c hc
theorem MW.zi {Z : q_Z} {M M' : q_C} {m : Nat} {W W' : q_W} (h : MW Z M m W) (ha : q_ag (fun a => a ≠ m) M M') (er : M'.2.2 = M.2.2) (eS : W'.S = W.S) (eT : W'.T = W.T) (eK : W'.K = W.K) (et : W'.t0 = W.t0) (hn : W'.n ≤ W.n) (esg : ∀ i, i < W'.n → W'.sg i = W.sg i) (g6 : gI M' m 6 = nI W'.n) (g11 : gI M' m 11 = w_b1 W' ∧ gI M' m 12 = w_b2 W') (g8 : gI M' m 8 = W'.gF ∧ gI M' m 9 = W'.gB ∧ gI M' m 10 = nI W'.gN) (g13 : gI M' m 13 = w_kc W') (g14 : gI M' m 14 = sp W'.t0) (g21 : gI M' m 21 = W'.nr) : MW Z M' m W' := by
  obtain ⟨⟨h1, h2, h3, h4, _⟩, hK⟩ := h
  have h12 := h4.1
  refine ⟨⟨h1.mv er, ?_, ?_, ⟨by omega, g6, fun i hi k hk => ?_⟩, g11, g8, g13, g14, g21⟩, ?_⟩
  · rw [eS]
    exact ⟨h2.1.ag ha (by omega) (by omega), h2.2.1.ag ha (by omega) (by omega), by rw [ha.I (by omega)]; exact h2.2.2.1, by rw [ha.I (by omega)]; exact h2.2.2.2⟩
  · rw [eT]; exact h3.ag ha (by omega) (by omega)
  · rw [ha.I (by omega), esg i hi]; exact h4.2.2 i (by omega) k hk
  · rw [eT, et, eK]
    exact hK.zi (fun q => ha.I (by omega) q) (fun q => ha.I (by omega) q) (fun a q q1 q2 => ha.J (by omega) q)
theorem JW.st {Z : q_Z} {M M1 M2 : q_C} {z : Nat} {W W' : q_W} (h : JW Z M z W) (hB' : BW Z M1 z W') (a1 : q_ag (fun a => z + 35 ≤ a ∧ a ≤ z + 52) M M1) (hM' : MW Z M1 (z + 35) W → MW Z M2 (z + 35) W') (a2 : q_ag (fun a => ¬ (z + 35 ≤ a ∧ a ≤ z + 52)) M1 M2) (hW' : okW W') : JW Z M2 z W' :=
  ⟨hB'.ag hW' a2, hM' (h.2.1.ag zx.rf a1), hW'⟩
/-! near: both -/
def nrW (W : q_W) (r : Int32) : q_W := mkW W.S W.T W.n W.sg W.ba W.gF W.gB W.gN W.kd W.K W.t0 r
theorem j_nrW {Z : q_Z} {M : q_C} {z : Nat} {W : q_W} (h : JW Z M z W) (r : Int32) : JW Z (sI (sI M z 11 r) (z + 35) 21 r) z (nrW W r) := by
  obtain ⟨hB, hM, hW⟩ := id h
  have ag1 : q_ag (fun a => a ≠ z) M (sI M z 11 r) := agn_I q_ag.rf _ _
  have ag2 : q_ag (fun a => a ≠ z + 35) (sI M z 11 r) (sI (sI M z 11 r) (z + 35) 21 r) := agn_I q_ag.rf _ _
  have k1 : ∀ q, q ≠ 11 → gI (sI M z 11 r) z q = gI M z q := fun q hq => gI_k _ _ _ _ hq
  refine h.st (hB.zi (W' := nrW W r) hW.kl ag1 rfl rfl rfl rfl rfl (Nat.le_refl _) (fun _ _ => rfl) ?_ ?_ ?_ ?_ (gI_same _ _ _ _)) (ag1.wk (fun a q => by omega)) (fun hm => ?_) (ag2.wk (fun a q => by omega)) hW
  · rw [k1 _ (by decide)]; exact hB.1.2.2.2.1.2.1
  · rw [k1 _ (by decide), k1 _ (by decide)]; exact hB.1.2.2.2.2.1
  · rw [k1 _ (by decide), k1 _ (by decide), k1 _ (by decide)]; exact hB.1.2.2.2.2.2.1
  · rw [k1 _ (by decide)]; exact hB.1.2.2.2.2.2.2.1
  · have k2 : ∀ q, q ≠ 21 → gI (sI (sI M z 11 r) (z + 35) 21 r) (z + 35) q = gI (sI M z 11 r) (z + 35) q := fun q hq => gI_k _ _ _ _ hq
    refine hm.zi (W' := nrW W r) ag2 rfl rfl rfl rfl rfl (Nat.le_refl _) (fun _ _ => rfl) ?_ ?_ ?_ ?_ ?_ (gI_same _ _ _ _)
    · rw [k2 _ (by decide)]; exact hm.1.2.2.2.1.2.1
    · rw [k2 _ (by decide), k2 _ (by decide)]; exact hm.1.2.2.2.2.1
    · rw [k2 _ (by decide), k2 _ (by decide), k2 _ (by decide)]; exact hm.1.2.2.2.2.2.1
    · rw [k2 _ (by decide)]; exact hm.1.2.2.2.2.2.2.1
    · rw [k2 _ (by decide)]; exact hm.1.2.2.2.2.2.2.2.1
theorem n_fin {Z : q_Z} {M : q_C} {z : Nat} {W : q_W} (h : JW Z M z W) {v1 v2 v3 v5 : Int32} {k0 e : Nat} (hs1 : (-300 : Int32) ≤ v2 ∧ v2 ≤ 300) (hs2 : (-300 : Int32) ≤ v3 ∧ v3 ≤ 300) (hk0 : k0 ≤ e) (he : e ≤ W.K.length) (hv : ∀ q, q ≤ 100 → (v5 ≤ nI q ↔ e ≤ q)) (hd : ∀ q, k0 ≤ q → q < e → trd M z q) (hF : ∀ t s, nin W (fun _ => true) t (e - k0) k0 s = nin W (fun q => decide (v1 = -1) || decide (nI q = v1)) t W.K.length 0 s) :
    ∃ (r : Int64) (M' M'' : q_C) (W' : q_W), fX6_near_b67 z v2 v3 (nI k0) v5 Z M = some (r, Z, M') ∧ fX7_near_b13 (z + 35) v1 v2 v3 Z M' = some (r, M'') ∧ JW Z M'' z W' ∧ MW Z M' (z + 35) W := by
  obtain ⟨hB, hM, hW⟩ := id h
  have ht1 := st_i.mp hs1
  have ht2 := st_i.mp hs2
  by_cases hle : v2.toInt ≤ v3.toInt
  · have n0 : nok ((-1 : Int64), (-1000 : Int32)) := Or.inl rfl
    have n1 : nok ((-1 : Int64), (0 : Int32)) := Or.inl rfl
    have c1 := e_noC h ht2.2 hk0 he hv hd (v3.toInt - v2.toInt + 1).toNat v2.toInt q_FU (-1, -1000) (by omega) ht1.1 (by unfold q_FU; omega) n0
    have rr := nou_r (W := W) (sel := fun _ => true) (n := e - k0) (k := k0) (v3.toInt - v2.toInt + 1).toNat v2.toInt (-1, -1000) (-1, 0) ⟨rfl, fun q => absurd (by decide) q⟩
    have ro := nou_ok hW (sel := fun _ => true) (n := e - k0) (k := k0) (v3.toInt - v2.toInt + 1).toNat v2.toInt (-1, -1000) n0
    have m0 : ∀ (M' : q_C), MW Z M' (z + 35) W → q_it (fun x : Int64 × Int32 × Int32 => fX7_near_L47 (z + 35) v1 v3 x.1 x.2.1 x.2.2 Z M') q_FU ((-1 : Int64), (0 : Int32), v2) = some (nou (fun t s => nin W (fun _ => true) t (e - k0) k0 s) (v3.toInt - v2.toInt + 1).toNat v2.toInt (-1, 0)) := by
      intro M' hm
      have c2 := e_noM hm hW ht2.2 (v1 := v1) (v3.toInt - v2.toInt + 1).toNat v2.toInt q_FU (-1, 0) (by omega) ht1.1 (by unfold q_FU; omega) n1
      rw [← sp_of, ← sp_of] at c2
      rw [nou_c hF]
      exact c2
    rw [← sp_of, ← sp_of] at c1
    generalize nou (fun t s => nin W (fun _ => true) t (e - k0) k0 s) (v3.toInt - v2.toInt + 1).toNat v2.toInt (-1, -1000) = rC at *
    generalize nou (fun t s => nin W (fun _ => true) t (e - k0) k0 s) (v3.toInt - v2.toInt + 1).toNat v2.toInt (-1, 0) = rM at *
    by_cases hr : rC.1 = -1
    · refine ⟨rC.1, M, M, W, ?_, ?_, h, hM⟩
      · unfold fX6_near_b67 fX6_near_b174
        rw [c1, q_bis]
        simp only [q_nm]
        rw [if_pos hr]
      · unfold fX7_near_b13 fX7_near_b182
        rw [e_isStep7, q_bis, bi_if, if_pos hs1, e_isStep7, q_bis, bi_if, if_pos hs2, if_pos (by rw [Int32.le_iff_toInt_le]; exact hle), m0 M hM, q_bis]
        simp only [q_nm]
        rw [rr.1, if_pos (by rw [hr]; decide)]
    · have hr2 : ¬ rC.1 < 0 := fun q => hr ((nok_lt ro).mpr q)
      refine ⟨rC.1, sI M z 11 rC.2, sI (sI M z 11 rC.2) (z + 35) 21 rC.2, nrW W rC.2, ?_, ?_, j_nrW h rC.2, hM.ag zx.rf (q_ag.rf.sI (by omega) _ _)⟩
      · unfold fX6_near_b67 fX6_near_b174
        rw [c1, q_bis]
        simp only [q_nm]
        rw [if_neg hr, q_gdk hB.1.1.1]
      · have hm1 : MW Z (sI M z 11 rC.2) (z + 35) W := hM.ag zx.rf (q_ag.rf.sI (by omega) _ _)
        unfold fX7_near_b13 fX7_near_b182
        rw [e_isStep7, q_bis, bi_if, if_pos hs1, e_isStep7, q_bis, bi_if, if_pos hs2, if_pos (by rw [Int32.le_iff_toInt_le]; exact hle), m0 _ hm1, q_bis]
        simp only [q_nm]
        rw [rr.1, if_neg hr2, q_gdk hM.1.1.1, rr.2 hr2]
  · refine ⟨-1, M, M, W, ?_, ?_, h, hM⟩
    · have st : q_it (fun x : Int64 × Int32 × Int32 => fX6_near_L82 z v3 (nI k0) v5 x.1 x.2.1 x.2.2 Z M) q_FU ((-1 : Int64), (-1000 : Int32), v2) = some (-1, -1000) := by
        refine q_it_x (n := 99999) ?_
        show fX6_near_L82 z v3 (nI k0) v5 (-1) (-1000) v2 Z M = _
        unfold fX6_near_L82
        rw [if_pos (by rw [Int32.lt_iff_toInt_lt]; omega)]
      unfold fX6_near_b67 fX6_near_b174
      rw [st, q_bis]
      simp only [q_nm]
      rfl
    · unfold fX7_near_b13 fX7_near_b32
      rw [e_isStep7, q_bis, bi_if, if_pos hs1, e_isStep7, q_bis, bi_if, if_pos hs2, if_neg (by rw [Int32.le_iff_toInt_le]; exact hle)]
theorem j_near {Z : q_Z} {M : q_C} {z : Nat} {W : q_W} (h : JW Z M z W) (v1 v2 v3 : Int32) : ∃ (r : Int64) (Z' : q_Z) (M' M'' : q_C) (W' : q_W), fX6_near z v1 v2 v3 Z M = some (r, Z', M') ∧ fX7_near (z + 35) v1 v2 v3 Z' M' = some (r, M'') ∧ JW Z' M'' z W' := by
  obtain ⟨hB, hM, hW⟩ := id h
  have hl := hW.kl
  by_cases hs : ((-300 : Int32) ≤ v2 ∧ v2 ≤ 300) ∧ ((-300 : Int32) ≤ v3 ∧ v3 ≤ 300)
  · obtain ⟨hs1, hs2⟩ := hs
    by_cases hv : v1 = -1
    · subst hv
      obtain ⟨Z1, M1, a1, a2, a3, a4, a5⟩ := e_traceAll hB hW
      have hJ1 := h.tr a2 a3 a4
      obtain ⟨r, M', M'', W', b1, b2, b3, b4⟩ := n_fin hJ1 (v1 := -1) (v5 := w_kc W) (k0 := 0) (e := W.K.length) hs1 hs2 (by omega) (Nat.le_refl _) (fun q hq => hW.kle (by omega)) (fun q _ hq => a5 q hq) (fun t s => by rw [nin_t]; rfl)
      rw [nI_0] at b1
      refine ⟨r, Z1, M', M'', W', ?_, ?_, b3⟩
      · unfold fX6_near fX6_near_b31 fX6_near_b40 fX6_near_b50
        rw [e_isStep, q_bis, bi_if, if_pos hs1, e_isStep, q_bis, bi_if, if_pos hs2, if_pos rfl, if_pos rfl, q_gdk hB.1.1.1, a1, q_b2s, if_pos rfl, if_pos rfl, q_gdk a3.1.1.1, a3.1.2.2.2.2.2.2.1]
        exact b1
      · unfold fX7_near
        rw [if_pos rfl]
        exact b2
    · rcases hW.kin v1 with hv1 | ⟨k, hk, rfl⟩
      · refine ⟨-1, Z, M, M, W, ?_, ?_, h⟩
        · unfold fX6_near fX6_near_b24 fX6_near_b27
          rw [e_isStep, q_bis, bi_if, if_pos hs1, e_isStep, q_bis, bi_if, if_pos hs2, if_neg hv, q_gdk hB.1.1.1, e_tracedW0 hB hv1, q_b3s, q_onn]
        · unfold fX7_near fX7_near_b32
          rw [if_neg hv, q_gdk hM.1.1.1, e_isWay hM.1, q_bis, bi_if, if_neg (fun q => q hv1)]
      · obtain ⟨w, Z1, M1, a1, a2, a3, a4, a5, a6⟩ := e_tracedW hB hW hk
        have hJ1 := h.tr a3 a4 a5
        obtain ⟨r, M', M'', W', b1, b2, b3, b4⟩ := n_fin hJ1 (v1 := nI k) (v5 := nI (k + 1)) (k0 := k) (e := k + 1) hs1 hs2 (by omega) (by omega) (fun q hq => nI_leI (by omega) (by omega)) (fun q q1 q2 => by
          obtain rfl : q = k := by omega
          exact a6) (fun t s => by
          rw [nin_1 hv (by omega) W.K.length 0 s (by omega) (by omega) (by omega), show k + 1 - k = 1 by omega]
          rfl)
        refine ⟨r, Z1, M', M'', W', ?_, ?_, b3⟩
        · unfold fX6_near fX6_near_b24 fX6_near_b31 fX6_near_b40 fX6_near_b50
          rw [e_isStep, q_bis, bi_if, if_pos hs1, e_isStep, q_bis, bi_if, if_pos hs2, if_neg hv, q_gdk hB.1.1.1, a1, q_b3s, q_ons, if_neg hv, if_neg hv, if_neg hv, nI_1]
          exact b1
        · unfold fX7_near
          rw [if_neg hv, q_gdk b4.1.1.1, e_isWay b4.1, q_bis, bi_if, if_pos (hW.kno hk)]
          exact b2
  · refine ⟨-1, Z, M, M, W, ?_, ?_, h⟩
    · unfold fX6_near fX6_near_b27
      by_cases q1 : (-300 : Int32) ≤ v2 ∧ v2 ≤ 300
      · rw [e_isStep, q_bis, bi_if, if_pos q1, e_isStep, q_bis, bi_if, if_neg (fun q => hs ⟨q1, q⟩)]
      · rw [e_isStep, q_bis, bi_if, if_neg q1]
    · have b13 : fX7_near_b13 (z + 35) v1 v2 v3 Z M = some (-1, M) := by
        unfold fX7_near_b13 fX7_near_b32
        by_cases q1 : (-300 : Int32) ≤ v2 ∧ v2 ≤ 300
        · rw [e_isStep7, q_bis, bi_if, if_pos q1, e_isStep7, q_bis, bi_if, if_neg (fun q => hs ⟨q1, q⟩)]
        · rw [e_isStep7, q_bis, bi_if, if_neg q1]
      unfold fX7_near fX7_near_b32
      rw [b13]
      by_cases q : v1 = -1
      · rw [if_pos q]
      · rw [if_neg q, q_gdk hM.1.1.1, e_isWay hM.1, q_bis, bi_if]
        split <;> rfl
theorem j_nearest {Z : q_Z} {M : q_C} {z : Nat} {W : q_W} (h : JW Z M z W) : ∃ r : Int32, fX6_nearest z Z M = some r ∧ fX7_nearest (z + 35) Z M = some r := by
  obtain ⟨hB, hM, hW⟩ := id h
  refine ⟨W.nr, ?_, ?_⟩
  · unfold fX6_nearest
    rw [q_gdk hB.1.1.1, hB.1.2.2.2.2.2.2.2]
  · unfold fX7_nearest
    rw [q_gdk hM.1.1.1, hM.1.2.2.2.2.2.2.2.2]
theorem j_all {Z : q_Z} {M : q_C} {z : Nat} {W : q_W} (h : JW Z M z W) (v : Int32) : ∃ r : Int32, fX6_all z v Z M = some r ∧ fX7_all (z + 35) v Z M = some r := by
  obtain ⟨hB, hM, hW⟩ := id h
  have hz := hB.1.1
  have o0 : q_ok Z (z + 35 + 1 + 0) 1 (0 : Int32) = true := q_okT (i := 0) (hM.1.1.k1 (k := 0) (by decide)) rfl (by decide) (by rw [hM.1.1.l (k := 0) (n := 2) (by decide) rfl]; decide)
  have o1 : q_ok Z (z + 35 + 1 + 0) 1 (1 : Int32) = true := q_okT (i := 1) (hM.1.1.k1 (k := 0) (by decide)) rfl (by decide) (by rw [hM.1.1.l (k := 0) (n := 2) (by decide) rfl]; decide)
  refine ⟨if v = 0 then nI W.n else if v = 1 then nI W.S.1.1 else if v = 2 then nI W.S.2.1.1 else if v = 3 then w_kc W else -1, ?_, ?_⟩
  · unfold fX6_all
    rw [q_gdk hz.1, q_gdk hz.1, q_gdk hz.1, q_gdk hz.1, hz.2.1.1, q_bis, q_bis, q_gdk hz.2.2.1.1, q_gdk hz.2.2.1.1, hz.2.2.1.2.1, hz.2.2.1.2.2.1, q_bis, q_bis, q_gdk hz.2.2.1.2.2.2.1.1, q_gdk hz.2.2.1.2.2.2.2.1, hB.1.2.1.1.2.1, hB.1.2.1.2.1.2.1, hB.1.2.2.2.1.2.1, hB.1.2.2.2.2.2.2.1]
    by_cases q0 : v = 0
    · rw [if_pos q0, if_pos q0]
    rw [if_neg q0, if_neg q0]
    by_cases q1 : v = 1
    · rw [if_pos q1, if_pos q1]
    rw [if_neg q1, if_neg q1]
    by_cases q2 : v = 2
    · rw [if_pos q2, if_pos q2]
    rw [if_neg q2, if_neg q2]
    by_cases q3 : v = 3
    · rw [if_pos q3, if_pos q3]
    rw [if_neg q3, if_neg q3]
  · have e0 : gI M (z + 35 + 1 + 0) (0 : Int32).toNatClampNeg = nI W.S.1.1 := hM.1.2.1.1.2.1
    have e1 : gI M (z + 35 + 1 + 0) (1 : Int32).toNatClampNeg = nI W.S.2.1.1 := hM.1.2.1.2.1.2.1
    unfold fX7_all
    rw [q_gdk hM.1.1.1, q_gdk hM.1.1.1, q_gdk hM.1.1.1, q_gdk hM.1.1.1, hM.1.1.a (f := 0) (k := 0) (by decide) rfl, q_bis, q_bis, q_gdc o0, q_gdc o1, e0, e1, hM.1.2.2.2.1.2.1, hM.1.2.2.2.2.2.2.1]
    by_cases q0 : v = 0
    · rw [if_pos q0, if_pos q0]
    rw [if_neg q0, if_neg q0]
    by_cases q1 : v = 1
    · rw [if_pos q1, if_pos q1]
    rw [if_neg q1, if_neg q1]
    by_cases q2 : v = 2
    · rw [if_pos q2, if_pos q2]
    rw [if_neg q2, if_neg q2]
    by_cases q3 : v = 3
    · rw [if_pos q3, if_pos q3]
    rw [if_neg q3, if_neg q3]
