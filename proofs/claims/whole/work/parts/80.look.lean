/-! the class looks -/
def pmv (z : Nat) (M M' : q_C) : Prop := q_ag (fun a => ¬ (z + 19 ≤ a ∧ a ≤ z + 22)) M M' ∧ M'.2.2 = M.2.2
theorem pmv.rf {z : Nat} {M : q_C} : pmv z M M := ⟨q_ag.rf, rfl⟩
theorem pmv.tr {z : Nat} {M M1 M2 : q_C} (a : pmv z M M1) (b : pmv z M1 M2) : pmv z M M2 := ⟨a.1.tr b.1, b.2.trans a.2⟩
theorem JW.pm {Z : q_Z} {M M' : q_C} {z : Nat} {W : q_W} (h : JW Z M z W) (a : pmv z M M') : JW Z M' z W := by
  obtain ⟨⟨hF, hR, hK⟩, hM, hW⟩ := h
  refine ⟨⟨hF.mv zx.rf ⟨a.1.wk (fun x q => by omega), fun x _ _ => by rw [a.2]⟩, hR.mv (fun x _ => by rw [a.2]), hK.ag hR hW.kl a.1 (by omega) (fun x q => by omega)⟩, hM.ag zx.rf (a.1.wk (fun x q => by omega)), hW⟩
theorem trd.pm {Z : q_Z} {M M' : q_C} {z k : Nat} (h : trd M z k) (hR : zR Z M z) (hk : k < 100) (a : pmv z M M') : trd M' z k := by
  obtain ⟨w, h1, h2⟩ := h
  have := (hR.1 k w hk h1).1
  exact ⟨w, by rw [a.1.R (by omega)]; exact h1, by rw [a.1.I (by omega)]; exact h2⟩
theorem sdn_b {W : q_W} (hW : okW W) {t : Int} {k : Nat} {p : Int64 × Int64} (h : sdn W t k = some p) : ptb (k, p) := by
  unfold sdn at h
  obtain ⟨c, h1, h2⟩ := Option.map_eq_some_iff.mp h
  obtain ⟨b1, b2⟩ := lost_b (pth_nl h1)
  have t1 := hW.1.2.1.x (sp t)
  have t2 := hW.1.2.1.y (sp t)
  rw [← h2]
  unfold ptb
  dsimp only
  rw [tI_sub (by rw [l_64]; omega) (by rw [l_64]; omega), tI_sub (by rw [l_64]; omega) (by rw [l_64]; omega), l_64, l_64]
  omega
theorem lks_b {W : q_W} (hW : okW W) {t : Int} (d k : Nat) : ∀ x, x ∈ lks (sdn W t) k d → ptb x := fun x hx => by
  obtain ⟨_, _, h3⟩ := lks_m d k hx
  have := sdn_b hW h3
  exact this
theorem e_take {Z : q_Z} {M : q_C} {z k : Nat} {L : List q_pt} {p : Int64 × Int64} (hz : zP Z M (z + 19)) (hP : PH M (z + 19) L) (hl : L.length < 100) : ∃ M', fX1_take (z + 19) (nI k) p.1 p.2 Z M = some M' ∧ PH M' (z + 19) (L ++ [(k, p)]) ∧ pmv z M M' := by
  obtain ⟨h1, h2, h3⟩ := hP
  have o0 : q_ok Z (z + 19 + 1) 1 (nI L.length) = true := q_okT hz.2.2.1.1 rfl (by omega) (by rw [hz.2.2.1.2]; omega)
  have o1 : q_ok Z (z + 19 + 2) 2 (nI L.length) = true := q_okT hz.2.2.2.1.1 rfl (by omega) (by rw [hz.2.2.2.1.2]; omega)
  have o2 : q_ok Z (z + 19 + 3) 2 (nI L.length) = true := q_okT hz.2.2.2.2.1 rfl (by omega) (by rw [hz.2.2.2.2.2]; omega)
  unfold fX1_take fX1_take_b57
  rw [q_gdk hz.1, h1, if_neg (nI_pos (by omega)), if_neg (show ¬ (100 : Int32) ≤ nI L.length from nI_ge (a := L.length) (b := 100) hl (by omega)), hz.2.1.1, q_bis, q_gdc o0]
  simp only [q_nm]
  rw [nI_clamp (by omega), gR_sI, hz.2.1.2.1, q_bis, gI_a _ _ _ _ (by omega), h1, q_gdc o1, nI_clamp (by omega)]
  generalize hM1 : sI M (z + 19 + 1) L.length (nI k) = M1
  rw [gR_sJ, gI_sJ]
  have r1 : gR M1 (z + 19) 2 = some (z + 19 + 3) := by rw [← hM1, gR_sI]; exact hz.2.1.2.2
  have i1 : gI M1 (z + 19) 3 = nI L.length := by rw [← hM1, gI_a _ _ _ _ (by omega)]; exact h1
  rw [r1, q_bis, i1, q_gdc o2, nI_clamp (by omega)]
  generalize hM2 : sJ (sJ M1 (z + 19 + 2) L.length p.1) (z + 19 + 3) L.length p.2 = M2
  have i2 : ∀ a q, gI M2 a q = gI M1 a q := fun a q => by rw [← hM2, gI_sJ, gI_sJ]
  rw [i2, i1, nI_1]
  refine ⟨_, rfl, ⟨?_, ?_, fun i a ha => ?_⟩, ?_, ?_⟩
  · rw [gI_same, List.length_append]; rfl
  · rw [List.length_append]; exact hl
  · have j2 : ∀ q, q ≠ L.length → gJ M2 (z + 19 + 2) q = gJ M (z + 19 + 2) q ∧ gJ M2 (z + 19 + 3) q = gJ M (z + 19 + 3) q := fun q hq => by
      rw [← hM2, gJ_k _ _ _ _ hq, gJ_k _ _ _ _ hq, ← hM1, gJ_sI, gJ_k _ _ _ _ hq, gJ_k _ _ _ _ hq, gJ_sI]
      exact ⟨rfl, rfl⟩
    rw [gI_a _ _ _ _ (by omega), i2, gJ_sI, gJ_sI]
    by_cases e : i < L.length
    · rw [List.getElem?_append_left e] at ha
      obtain ⟨a1, a2, a3⟩ := h3 i a ha
      obtain ⟨j3, j4⟩ := j2 i (by omega)
      rw [j3, j4, ← hM1, gI_k _ _ _ _ (by omega)]
      exact ⟨a1, a2, a3⟩
    · have hi := (List.getElem?_eq_some_iff.mp ha).1
      rw [List.length_append, List.length_singleton] at hi
      obtain rfl : i = L.length := by omega
      rw [List.getElem?_concat_length] at ha
      cases ha
      refine ⟨by rw [← hM1, gI_same], ?_, ?_⟩
      · rw [← hM2, gJ_a _ _ _ _ (by omega), gJ_same]
      · rw [← hM2, gJ_same]
  · rw [← hM2, ← hM1]
    exact (((q_ag.rf.sI (fun q => q ⟨by omega, by omega⟩) _ _).sJ (fun q => q ⟨by omega, by omega⟩) _ _).sJ (fun q => q ⟨by omega, by omega⟩) _ _).sI (fun q => q ⟨by omega, by omega⟩) _ _
  · rw [← hM2, ← hM1]
    rfl
theorem e_lookL {Z : q_Z} {M0 : q_C} {z : Nat} {W : q_W} {t : Int} (h1 : -300 ≤ t) (h2 : t ≤ 300) (hJ0 : JW Z M0 z W) (hd0 : ∀ k, k < W.K.length → trd M0 z k) : ∀ (d k f : Nat) (M : q_C) (L : List q_pt), k + d = W.K.length → d + 1 < f → pmv z M0 M → PH M (z + 19) L → L.length ≤ k →
    ∃ M', q_it (fun x : Int32 × q_C => fX6_look_L35 z (sp t) (tpx W.T.1 (sp t)) (tpy W.T.1 (sp t)) x.1 Z x.2) f (nI k, M) = some M' ∧ pmv z M0 M' ∧ PH M' (z + 19) (L ++ lks (sdn W t) k d) := by
  have hW := hJ0.2.2
  have hl := hW.kl
  have eT : (sp t).toInt = t := sp_T (by omega) (by omega)
  intro d
  induction d with
  | zero =>
    intro k f M L h3 h4 h5 h6 h7
    obtain ⟨f, rfl⟩ : ∃ y, f = y + 1 := ⟨f - 1, by omega⟩
    have hB := (hJ0.pm h5).1
    refine ⟨M, q_it_x ?_, h5, by unfold lks; rw [List.append_nil]; exact h6⟩
    show fX6_look_L35 z (sp t) (tpx W.T.1 (sp t)) (tpy W.T.1 (sp t)) (nI k) Z M = _
    unfold fX6_look_L35
    rw [q_gdk hB.1.1.1, hB.1.2.2.2.2.2.2.1, if_pos (by rw [hW.kle (by omega)]; omega)]
  | succ d ih =>
    intro k f M L h3 h4 h5 h6 h7
    obtain ⟨f, rfl⟩ : ∃ y, f = y + 1 := ⟨f - 1, by omega⟩
    have hB := (hJ0.pm h5).1
    have hk : k < W.K.length := by omega
    obtain ⟨w, b1, b2⟩ := ((hd0 k hk).pm hJ0.1.2.1 (by omega) h5).rd hB hW hk
    have pre : fX6_look_L35 z (sp t) (tpx W.T.1 (sp t)) (tpy W.T.1 (sp t)) (nI k) Z M = (if (-300 ≤ t ∧ t ≤ 300) ∧ (pth W k t).isSome = true then
        (Option.bind (fX5_xAt w (sp t) Z M) fun r_34 => Option.bind (fX5_yAt w (sp t) Z M) fun r_36 => Option.bind (fX1_take (z + 19) (nI k) ((r_34 - tpx W.T.1 (sp t)).toInt64) ((r_36 - tpy W.T.1 (sp t)).toInt64) Z M) fun M_40 => some (Sum.inl (nI (k + 1), M_40))) else some (Sum.inl (nI (k + 1), M))) := by
      unfold fX6_look_L35 fX6_look_b93
      rw [q_gdk hB.1.1.1, hB.1.2.2.2.2.2.2.1, if_neg (by rw [hW.kle (by omega)]; omega), e_kw hB.1 hW hk, q_bis, b1, q_ons, q_gdk b2.1, b2.2.1, q_bis, bi_if, eT, hB.1.1.2.1.2.2.2.2.2.2, q_bis]
      simp only [q_nm, q_gdk hB.1.1.p.1]
      rw [nI_1]
    unfold lks
    cases hc : pth W k t with
    | none =>
      have hn : sdn W t k = none := by unfold sdn; rw [hc]; rfl
      rw [hc, if_neg (fun q => by cases q.2)] at pre
      rw [hn, q_it_s (y := (nI (k + 1), M)) pre]
      exact ih (k + 1) f M L (by omega) (by omega) h5 h6 (by omega)
    | some c =>
      obtain ⟨x1, x2, _, _⟩ := b2.2.2 t c h1 h2 hc
      obtain ⟨n1, n2⟩ := nl_x (pth_nl hc)
      obtain ⟨bb1, bb2⟩ := lost_b (pth_nl hc)
      have t1 := hW.1.2.1.x (sp t)
      have t2 := hW.1.2.1.y (sp t)
      have l1 := l_32 (q := c.1) (by omega) (by omega)
      have l2 := l_32 (q := c.2.1) (by omega) (by omega)
      have hn : sdn W t k = some (c.1 - (tpx W.T.1 (sp t)).toInt64, c.2.1 - (tpy W.T.1 (sp t)).toInt64) := by unfold sdn; rw [hc]; rfl
      obtain ⟨M1, c1, c2, c3⟩ := e_take (k := k) (p := (c.1 - (tpx W.T.1 (sp t)).toInt64, c.2.1 - (tpy W.T.1 (sp t)).toInt64)) hB.1.1.p h6 (by omega)
      rw [hc, if_pos ⟨⟨h1, h2⟩, rfl⟩, x1, q_bis, x2, q_bis, i64_sub (by omega) (by omega), i64_sub (by omega) (by omega), n1, n2, c1, q_bis] at pre
      rw [hn, q_it_s (y := (nI (k + 1), M1)) pre]
      obtain ⟨M', d1, d2, d3⟩ := ih (k + 1) f M1 _ (by omega) (by omega) (h5.tr c3) c2 (by rw [List.length_append, List.length_singleton]; omega)
      refine ⟨M', d1, d2, ?_⟩
      rw [List.append_assoc] at d3
      exact d3
/-- all that lie there -/
def LL (W : q_W) (t : Int) : List q_pt := lks (sdn W t) 0 W.K.length
theorem e_look {Z : q_Z} {M : q_C} {z : Nat} {W : q_W} {t : Int} (h1 : -300 ≤ t) (h2 : t ≤ 300) (hJ : JW Z M z W) (hd : ∀ k, k < W.K.length → trd M z k) : ∃ M', fX6_look z (sp t) Z M = some M' ∧ pmv z M M' ∧ PH M' (z + 19) (LL W t) := by
  have hB := hJ.1
  have hW := hJ.2.2
  have hl := hW.kl
  have hz := hB.1.1
  have hT := hB.1.2.2.1
  have m1 : pmv z M (sI M (z + 19) 3 0) := ⟨q_ag.rf.sI (fun q => q ⟨by omega, by omega⟩) _ _, rfl⟩
  obtain ⟨M', a1, a2, a3⟩ := e_lookL h1 h2 hJ hd W.K.length 0 q_FU (sI M (z + 19) 3 0) [] (by omega) (by unfold q_FU; omega) m1 ⟨gI_same _ _ _ _, by simp, fun i a ha => by cases ha⟩ (by simp)
  rw [nI_0] at a1
  refine ⟨M', ?_, a2, a3⟩
  unfold fX6_look
  rw [q_gdk hz.1, hz.2.1.2.1, q_bis, q_gdk hz.2.2.2.1.1, hz.2.2.2.1.2.1, q_bis, q_gdk hz.2.2.2.1.2.2.2.1.1, e_xAt hz.2.2.2.1.2.2.2.1 hT.1, q_bis, q_bis, q_gdk hz.2.2.2.1.1, hz.2.2.2.1.2.1, q_bis, q_gdk hz.2.2.2.1.2.2.2.1.1, e_yAt hz.2.2.2.1.2.2.2.1 hT.1, q_bis, hz.2.1.2.2.2.2.2.2, q_bis, q_gdk hz.p.1]
  simp only [q_nm]
  rw [a1, q_bis]
theorem e_widthAt {Z : q_Z} {M : q_C} {z : Nat} {W : q_W} {t : Int} (h1 : -300 ≤ t) (h2 : t ≤ 300) (hJ : JW Z M z W) (hd : ∀ k, k < W.K.length → trd M z k) : ∃ M', fX6_widthAt z (sp t) Z M = some (if (LL W t).length = 0 then -1 else wdt (LL W t), M') ∧ pmv z M M' := by
  obtain ⟨M', a1, a2, a3⟩ := e_look h1 h2 hJ hd
  have hB := hJ.1
  have hB' := (hJ.pm a2).1
  refine ⟨M', ?_, a2⟩
  unfold fX6_widthAt
  rw [q_gdk hB.1.1.1, a1, q_bis, hB'.1.1.2.1.2.2.2.2.2.2, q_bis, q_gdk hB'.1.1.p.1, e_width hB'.1.1.p a3 (lks_b hJ.2.2 _ _), q_bis]
