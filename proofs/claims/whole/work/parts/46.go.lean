/-! the class's comet goes to a step -/
theorem TT_in {S : q_SK} {t0 : Int} {c0 d : q_cs} {t : Int} (h : TT S t0 c0 t = some d) (ht : t < t0) : ∃ c, TT S t0 c0 (t + 1) = some c := by
  obtain ⟨n, rfl⟩ : ∃ n : Nat, t = t0 - ((n + 1 : Nat) : Int) := ⟨(t0 - t).toNat - 1, by omega⟩
  rw [TT_b0] at h
  rw [show t0 - ((n + 1 : Nat) : Int) + 1 = t0 - (n : Int) by omega, TT_b0]
  obtain ⟨c, h1, h2⟩ := q_biE (show (bT S t0 c0 n).bind _ = some d from h)
  exact ⟨c, h1⟩
theorem TT_on {S : q_SK} {t0 : Int} {c0 d : q_cs} {t : Int} (h : TT S t0 c0 t = some d) (ht : t0 < t) : ∃ c, TT S t0 c0 (t - 1) = some c := by
  obtain ⟨n, rfl⟩ : ∃ n : Nat, t = t0 + ((n + 1 : Nat) : Int) := ⟨(t - t0).toNat - 1, by omega⟩
  rw [TT_f0] at h
  rw [show t0 + ((n + 1 : Nat) : Int) - 1 = t0 + (n : Int) by omega, TT_f0]
  obtain ⟨c, h1, h2⟩ := q_biE (show (fT S t0 c0 n).bind _ = some d from h)
  exact ⟨c, h1⟩
/-- all that a comet, its sky and its path are told by -/
def goW (Z : q_Z) (M : q_C) (h o : Nat) (S : q_SK) : Prop := zK Z h = 10 ∧ zY Z M o ∧ B_sk M o S ∧ okSK S ∧ ∀ i, i < 7 → o + i ≠ h
theorem goW.mv {Z : q_Z} {M M' : q_C} {h o : Nat} {S : q_SK} (g : goW Z M h o S) (m : cmv h M M') : goW Z M' h o S := ⟨g.1, g.2.1.mv m.2, g.2.2.1.ag m.1 g.2.2.2.2, g.2.2.2.1, g.2.2.2.2⟩
theorem i1 : (1 : Int32).toInt64 = 1 := by decide
theorem im1 : (-1 : Int32).toInt64 = -1 := by decide
theorem l_1m (d : Int64) : (1 : Int64) * d = d := Int64.one_mul d
theorem l_m1 (a d : Int64) : a + (-1 : Int64) * d = a - d := by rw [Int64.neg_mul, Int64.one_mul, ← Int64.sub_eq_add_neg]
/-- one turn on -/
theorem e_goF1 {Z : q_Z} {M : q_C} {h o : Nat} {S : q_SK} {c : q_cs} {t t' : Int} (g : goW Z M h o S) (hc : cst M h c (sp t) 0) (hlt : ¬ sp t' ≤ sp t) :
    ∃ M', fX0_go_L5 h (some o) (sp t') (sp t) Z M = some (.inl (sp (t + 1), M')) ∧ cmv h M M' ∧ (¬ lost (c.1 + c.2.2.1) (c.2.1 + c.2.2.2) → cst M' h (fw S (sp (t + 1)) c) (sp (t + 1)) 0) ∧ (lost (c.1 + c.2.2.1) (c.2.1 + c.2.2.2) → cst M' h (c.1 + c.2.2.1, c.2.1 + c.2.2.2, c.2.2.1, c.2.2.2) (sp (t + 1)) 1) := by
  obtain ⟨c0, c1, c2, c3, c4, c5⟩ := hc
  unfold fX0_go_L5 fX0_go_b74
  rw [if_neg hlt, q_gdk g.1, if_pos c5]
  simp only [q_nm]
  rw [sp_1]
  have a0 : gJ (sJ M h 0 (gJ M h 0 + gJ M h 2)) h 0 = c.1 + c.2.2.1 := by rw [gJ_same, c0, c2]
  have a1 : gJ (sJ M h 0 (gJ M h 0 + gJ M h 2)) h 1 + gJ (sJ M h 0 (gJ M h 0 + gJ M h 2)) h 3 = c.2.1 + c.2.2.2 := by rw [gJ_k _ _ _ _ (by decide), gJ_k _ _ _ _ (by decide), c1, c3]
  generalize hM5 : sJ M h 0 (gJ M h 0 + gJ M h 2) = M5 at a0 a1 ⊢
  have m5 : cmv h M M5 := by rw [← hM5]; exact cmv.rf.sJ _ _
  have b2 : gJ M5 h 2 = c.2.2.1 := by rw [← hM5, gJ_k _ _ _ _ (by decide)]; exact c2
  have b3 : gJ M5 h 3 = c.2.2.2 := by rw [← hM5, gJ_k _ _ _ _ (by decide)]; exact c3
  have b4 : gI M5 h 4 = sp t := by rw [← hM5]; exact c4
  rw [a1]
  generalize hM6 : sJ M5 h 1 (c.2.1 + c.2.2.2) = M6
  have m6 : cmv h M M6 := by rw [← hM6]; exact m5.sJ _ _
  have d0 : gJ M6 h 0 = c.1 + c.2.2.1 := by rw [← hM6, gJ_k _ _ _ _ (by decide)]; exact a0
  have d1 : gJ M6 h 1 = c.2.1 + c.2.2.2 := by rw [← hM6, gJ_same]
  have d2 : gJ M6 h 2 = c.2.2.1 := by rw [← hM6, gJ_k _ _ _ _ (by decide)]; exact b2
  have d3 : gJ M6 h 3 = c.2.2.2 := by rw [← hM6, gJ_k _ _ _ _ (by decide)]; exact b3
  have d4 : gI M6 h 4 = sp t := by rw [← hM6]; exact b4
  rw [d4, sp_1]
  generalize hM7 : sI M6 h 4 (sp (t + 1)) = M7
  have m7 : cmv h M M7 := by rw [← hM7]; exact m6.sI _ _
  have e0 : gJ M7 h 0 = c.1 + c.2.2.1 := by rw [← hM7]; exact d0
  have e1 : gJ M7 h 1 = c.2.1 + c.2.2.2 := by rw [← hM7]; exact d1
  have e2 : gJ M7 h 2 = c.2.2.1 := by rw [← hM7]; exact d2
  have e3 : gJ M7 h 3 = c.2.2.2 := by rw [← hM7]; exact d3
  have e4 : gI M7 h 4 = sp (t + 1) := by rw [← hM7, gI_same]
  rw [e_isOutside g.1, q_bis, bi_gd, e0, e1]
  generalize hM11 : sI M7 h 5 (bi (lost (c.1 + c.2.2.1) (c.2.1 + c.2.2.2))) = M11
  have m11 : cmv h M M11 := by rw [← hM11]; exact m7.sI _ _
  have f5 : gI M11 h 5 = bi (lost (c.1 + c.2.2.1) (c.2.1 + c.2.2.2)) := by rw [← hM11, gI_same]
  have hcst : cst M11 h (c.1 + c.2.2.1, c.2.1 + c.2.2.2, c.2.2.1, c.2.2.2) (sp (t + 1)) (bi (lost (c.1 + c.2.2.1) (c.2.1 + c.2.2.2))) :=
    ⟨by rw [← hM11]; exact e0, by rw [← hM11]; exact e1, by rw [← hM11]; exact e2, by rw [← hM11]; exact e3, by rw [← hM11, gI_k _ _ _ _ (by decide)]; exact e4, f5⟩
  rw [f5]
  by_cases hl : lost (c.1 + c.2.2.1) (c.2.1 + c.2.2.2)
  · rw [bi_t hl] at hcst ⊢
    rw [if_neg (by decide)]
    exact ⟨M11, rfl, m11, fun q => absurd hl q, fun _ => hcst⟩
  · rw [bi_f hl] at hcst ⊢
    rw [if_pos rfl]
    obtain ⟨M', p1, p2, p3⟩ := e_pullAll (1 : Int32) g.1 (g.mv m11).2.1 (g.mv m11).2.2.1 g.2.2.2.1 hcst hl g.2.2.2.2
    rw [p1, q_bis]
    refine ⟨M', rfl, m11.tr p3, fun _ => ?_, fun q => absurd q hl⟩
    rw [i1, l_1m, l_1m] at p2
    exact p2
/-- one turn back -/
theorem e_goB1 {Z : q_Z} {M : q_C} {h o : Nat} {S : q_SK} {c : q_cs} {t t' : Int} (g : goW Z M h o S) (hc : cst M h c (sp t) 0) (hl0 : ¬ lost c.1 c.2.1) (hlt : ¬ sp t ≤ sp t') :
    ∃ M', fX0_go_L85 h (some o) (sp t') (sp t) Z M = some (.inl (sp (t - 1), M')) ∧ cmv h M M' ∧ cst M' h (bw S (sp t) c) (sp (t - 1)) (bi (lost (bw S (sp t) c).1 (bw S (sp t) c).2.1)) := by
  obtain ⟨M1, p1, p2, p3⟩ := e_pullAll (-1 : Int32) g.1 g.2.1 g.2.2.1 g.2.2.2.1 (show cst M h (c.1, c.2.1, c.2.2.1, c.2.2.2) (sp t) 0 from hc) hl0 g.2.2.2.2
  rw [im1, l_m1, l_m1] at p2
  obtain ⟨c0, c1, c2, c3, c4, c5⟩ := p2
  dsimp only at c0 c1 c2 c3
  have ebw : bw S (sp t) c = (c.1 - (c.2.2.1 - acx S (sp t) c.1 c.2.1), c.2.1 - (c.2.2.2 - acy S (sp t) c.1 c.2.1), c.2.2.1 - acx S (sp t) c.1 c.2.1, c.2.2.2 - acy S (sp t) c.1 c.2.1) := rfl
  generalize hU : c.2.2.1 - acx S (sp t) c.1 c.2.1 = U at c2 ebw
  generalize hV : c.2.2.2 - acy S (sp t) c.1 c.2.1 = V at c3 ebw
  rw [ebw]
  unfold fX0_go_L85
  rw [if_neg hlt, q_gdk g.1, if_pos hc.2.2.2.2.2, p1, q_bis]
  simp only [q_nm]
  rw [sp_n]
  rw [c0, c2]
  generalize hM5 : sJ M1 h 0 (c.1 - U) = M5
  have m5 : cmv h M M5 := by rw [← hM5]; exact p3.sJ _ _
  have b0 : gJ M5 h 0 = c.1 - U := by rw [← hM5, gJ_same]
  have b1 : gJ M5 h 1 = c.2.1 := by rw [← hM5, gJ_k _ _ _ _ (by decide)]; exact c1
  have b2 : gJ M5 h 2 = U := by rw [← hM5, gJ_k _ _ _ _ (by decide)]; exact c2
  have b3 : gJ M5 h 3 = V := by rw [← hM5, gJ_k _ _ _ _ (by decide)]; exact c3
  have b4 : gI M5 h 4 = sp t := by rw [← hM5, gI_sJ]; exact c4
  rw [b1, b3]
  generalize hM6 : sJ M5 h 1 (c.2.1 - V) = M6
  have m6 : cmv h M M6 := by rw [← hM6]; exact m5.sJ _ _
  have d0 : gJ M6 h 0 = c.1 - U := by rw [← hM6, gJ_k _ _ _ _ (by decide)]; exact b0
  have d1 : gJ M6 h 1 = c.2.1 - V := by rw [← hM6, gJ_same]
  have d2 : gJ M6 h 2 = U := by rw [← hM6, gJ_k _ _ _ _ (by decide)]; exact b2
  have d3 : gJ M6 h 3 = V := by rw [← hM6, gJ_k _ _ _ _ (by decide)]; exact b3
  have d4 : gI M6 h 4 = sp t := by rw [← hM6, gI_sJ]; exact b4
  rw [d4, sp_m]
  generalize hM7 : sI M6 h 4 (sp (t - 1)) = M7
  have m7 : cmv h M M7 := by rw [← hM7]; exact m6.sI _ _
  have e0 : gJ M7 h 0 = c.1 - U := by rw [← hM7, gJ_sI]; exact d0
  have e1 : gJ M7 h 1 = c.2.1 - V := by rw [← hM7, gJ_sI]; exact d1
  have e2 : gJ M7 h 2 = U := by rw [← hM7, gJ_sI]; exact d2
  have e3 : gJ M7 h 3 = V := by rw [← hM7, gJ_sI]; exact d3
  have e4 : gI M7 h 4 = sp (t - 1) := by rw [← hM7, gI_same]
  rw [e_isOutside g.1, q_bis, bi_gd, e0, e1]
  refine ⟨sI M7 h 5 (bi (lost (c.1 - U) (c.2.1 - V))), rfl, m7.sI _ _, ?_, ?_, ?_, ?_, ?_, ?_⟩
  · rw [gJ_sI]; exact e0
  · rw [gJ_sI]; exact e1
  · rw [gJ_sI]; exact e2
  · rw [gJ_sI]; exact e3
  · rw [gI_k _ _ _ _ (by decide)]; exact e4
  · exact gI_same _ _ _ _
/-- how the going ends: there, or lost on the way -/
def goQ (S : q_SK) (t0 : Int) (c0 : q_cs) (M' : q_C) (h : Nat) (t t' : Int) : Prop :=
  (∃ c, TT S t0 c0 t' = some c ∧ cst M' h c (sp t') 0) ∨
  (TT S t0 c0 t' = none ∧ ∃ (q : Int) (d e : q_cs), TT S t0 c0 q = some d ∧ ((t ≤ q ∧ q < t' ∧ cst M' h e (sp (q + 1)) 1 ∧ e.1 = d.1 + d.2.2.1 ∧ e.2.1 = d.2.1 + d.2.2.2 ∧ TT S t0 c0 (q + 1) = none) ∨ (q ≤ t ∧ t' < q ∧ cst M' h e (sp (q - 1)) 1 ∧ e = bw S (sp q) d ∧ TT S t0 c0 (q - 1) = none)))
theorem e_goF {Z : q_Z} {h o : Nat} {S : q_SK} {t0 : Int} {c0 : q_cs} {t' : Int} (ht' : t' ≤ 1000) : ∀ (k : Nat) (t : Int) (M : q_C) (c : q_cs) (f : Nat), t + k = t' → -1000 ≤ t → goW Z M h o S → TT S t0 c0 t = some c → cst M h c (sp t) 0 → k + 1 < f →
    ∃ M', q_it (fun x : Int32 × q_C => fX0_go_L5 h (some o) (sp t') x.1 Z x.2) f (sp t, M) = some M' ∧ cmv h M M' ∧ goQ S t0 c0 M' h t t' := by
  intro k
  induction k with
  | zero =>
    intro t M c f h1 h2 g hT hc hf
    obtain ⟨f, rfl⟩ : ∃ y, f = y + 1 := ⟨f - 1, by omega⟩
    have e : t = t' := by omega
    subst e
    refine ⟨M, q_it_x ?_, cmv.rf, Or.inl ⟨c, hT, hc⟩⟩
    show fX0_go_L5 h (some o) (sp t) (sp t) Z M = _
    unfold fX0_go_L5
    rw [if_pos (Int32.le_refl _)]
  | succ k ih =>
    intro t M c f h1 h2 g hT hc hf
    obtain ⟨f, rfl⟩ : ∃ y, f = y + 1 := ⟨f - 1, by omega⟩
    obtain ⟨M1, a1, a2, a3, a4⟩ := e_goF1 (t' := t') g hc (by rw [sp_le (by omega) (by omega) (by omega) (by omega)]; omega)
    have hF := TT_F hT
    rw [q_it_s (y := (sp (t + 1), M1)) a1]
    by_cases hl : lost (c.1 + c.2.2.1) (c.2.1 + c.2.2.2)
    · rw [if_pos hl] at hF
      have hq := a4 hl
      obtain ⟨f, rfl⟩ : ∃ y, f = y + 1 := ⟨f - 1, by omega⟩
      have ht0 : t0 ≤ t := by
        rcases Int.lt_or_le t t0 with q | q
        · obtain ⟨c2, hc2⟩ := TT_in hT q
          rw [hF] at hc2; cases hc2
        · exact q
      refine ⟨M1, q_it_x ?_, a2, Or.inr ⟨?_, t, c, _, hT, Or.inl ⟨by omega, by omega, hq, rfl, rfl, hF⟩⟩⟩
      · show fX0_go_L5 h (some o) (sp t') (sp (t + 1)) Z M1 = _
        unfold fX0_go_L5
        by_cases hx : sp t' ≤ sp (t + 1)
        · rw [if_pos hx]
        · rw [if_neg hx, q_gdk g.1, if_neg (by rw [hq.2.2.2.2.2]; decide)]
      · have := TT_nF (by omega) hF (t' - (t + 1)).toNat
        rw [show t + 1 + (((t' - (t + 1)).toNat : Nat) : Int) = t' by omega] at this
        exact this
    · rw [if_neg hl] at hF
      obtain ⟨M', b1, b2, b3⟩ := ih (t + 1) M1 _ f (by omega) (by omega) (g.mv a2) hF (a3 hl) (by omega)
      refine ⟨M', b1, a2.tr b2, ?_⟩
      rcases b3 with q | ⟨q1, q, d, e, hd, hq⟩
      · exact Or.inl q
      · refine Or.inr ⟨q1, q, d, e, hd, ?_⟩
        rcases hq with ⟨u1, u2⟩ | ⟨u1, u2, u3⟩
        · exact Or.inl ⟨by omega, u2⟩
        · exact absurd u2 (by omega)
theorem e_goB {Z : q_Z} {h o : Nat} {S : q_SK} {t0 : Int} {c0 : q_cs} {t' : Int} (ht' : -1000 ≤ t') : ∀ (k : Nat) (t : Int) (M : q_C) (c : q_cs) (f : Nat), t = t' + k → t ≤ 1000 → goW Z M h o S → TT S t0 c0 t = some c → cst M h c (sp t) 0 → k + 1 < f →
    ∃ M', q_it (fun x : Int32 × q_C => fX0_go_L85 h (some o) (sp t') x.1 Z x.2) f (sp t, M) = some M' ∧ cmv h M M' ∧ goQ S t0 c0 M' h t t' := by
  intro k
  induction k with
  | zero =>
    intro t M c f h1 h2 g hT hc hf
    obtain ⟨f, rfl⟩ : ∃ y, f = y + 1 := ⟨f - 1, by omega⟩
    have e : t = t' := by omega
    subst e
    refine ⟨M, q_it_x ?_, cmv.rf, Or.inl ⟨c, hT, hc⟩⟩
    show fX0_go_L85 h (some o) (sp t) (sp t) Z M = _
    unfold fX0_go_L85
    rw [if_pos (Int32.le_refl _)]
  | succ k ih =>
    intro t M c f h1 h2 g hT hc hf
    obtain ⟨f, rfl⟩ : ∃ y, f = y + 1 := ⟨f - 1, by omega⟩
    obtain ⟨M1, a1, a2, a3⟩ := e_goB1 (t' := t') g hc (TT_nl hT) (by rw [sp_le (by omega) (by omega) (by omega) (by omega)]; omega)
    have hF := TT_B hT
    rw [q_it_s (y := (sp (t - 1), M1)) a1]
    by_cases hl : lost (bw S (sp t) c).1 (bw S (sp t) c).2.1
    · rw [if_pos hl] at hF
      rw [bi_t hl] at a3
      obtain ⟨f, rfl⟩ : ∃ y, f = y + 1 := ⟨f - 1, by omega⟩
      have ht0 : t ≤ t0 := by
        rcases Int.lt_or_le t0 t with q | q
        · obtain ⟨c2, hc2⟩ := TT_on hT q
          rw [hF] at hc2; cases hc2
        · exact q
      refine ⟨M1, q_it_x ?_, a2, Or.inr ⟨?_, t, c, _, hT, Or.inr ⟨by omega, by omega, a3, rfl, hF⟩⟩⟩
      · show fX0_go_L85 h (some o) (sp t') (sp (t - 1)) Z M1 = _
        unfold fX0_go_L85
        by_cases hx : sp (t - 1) ≤ sp t'
        · rw [if_pos hx]
        · rw [if_neg hx, q_gdk g.1, if_neg (by rw [a3.2.2.2.2.2]; decide)]
      · have := TT_nB (by omega) hF (t - 1 - t').toNat
        rw [show t - 1 - (((t - 1 - t').toNat : Nat) : Int) = t' by omega] at this
        exact this
    · rw [if_neg hl] at hF
      rw [bi_f hl] at a3
      obtain ⟨M', b1, b2, b3⟩ := ih (t - 1) M1 _ f (by omega) (by omega) (g.mv a2) hF a3 (by omega)
      refine ⟨M', b1, a2.tr b2, ?_⟩
      rcases b3 with q | ⟨q1, q, d, e, hd, hq⟩
      · exact Or.inl q
      · refine Or.inr ⟨q1, q, d, e, hd, ?_⟩
        rcases hq with ⟨u1, u2, u3⟩ | ⟨u1, u2⟩
        · exact absurd u2 (by omega)
        · exact Or.inr ⟨by omega, u2⟩
/-- the comet goes from step t of its path to step t' -/
theorem e_go {Z : q_Z} {M : q_C} {h o : Nat} {S : q_SK} {t0 : Int} {c0 c : q_cs} {t t' : Int} (g : goW Z M h o S) (hT : TT S t0 c0 t = some c) (hc : cst M h c (sp t) 0) (b1 : -500 ≤ t) (b2 : t ≤ 500) (b3 : -500 ≤ t') (b4 : t' ≤ 500) :
    ∃ M', fX0_go h (some o) (sp t') Z M = some M' ∧ cmv h M M' ∧ goQ S t0 c0 M' h t t' := by
  unfold fX0_go fX0_go_b80 fX0_go_b153
  rw [q_gdk g.1]
  simp only [q_nm]
  rw [hc.2.2.2.2.1]
  by_cases hle : t ≤ t'
  · obtain ⟨M1, a1, a2, a3⟩ := e_goF (t' := t') (by omega) (t' - t).toNat t M c q_FU (by omega) (by omega) g hT hc (by unfold q_FU; omega)
    rw [a1, q_bis, q_gdk g.1]
    have hst : ∃ y : Int, gI M1 h 4 = sp y ∧ y ≤ t' ∧ -1000 ≤ y := by
      rcases a3 with ⟨c2, q1, q2⟩ | ⟨_, q, d, e, hd, hq⟩
      · exact ⟨t', q2.2.2.2.2.1, by omega, by omega⟩
      · rcases hq with ⟨u1, u2, u3, _⟩ | ⟨u1, u2, _⟩
        · exact ⟨q + 1, u3.2.2.2.2.1, by omega, by omega⟩
        · exact absurd u2 (by omega)
    obtain ⟨y, hy, hy1, hy2⟩ := hst
    rw [hy]
    rw [show q_FU = 99999 + 1 from rfl, q_it_x (r := M1)]
    · exact ⟨M1, rfl, a2, a3⟩
    · show fX0_go_L85 h (some o) (sp t') (sp y) Z M1 = _
      unfold fX0_go_L85
      rw [if_pos ((sp_le (by omega) (by omega) (by omega) (by omega)).mpr hy1)]
  · rw [show q_FU = 99999 + 1 from rfl, q_it_x (r := M)]
    · rw [q_bis, q_gdk g.1, hc.2.2.2.2.1]
      obtain ⟨M1, a1, a2, a3⟩ := e_goB (t' := t') (by omega) (t - t').toNat t M c (99999 + 1) (by omega) (by omega) g hT hc (by omega)
      rw [a1]
      exact ⟨M1, rfl, a2, a3⟩
    · show fX0_go_L5 h (some o) (sp t') (sp t) Z M = _
      unfold fX0_go_L5
      rw [if_pos ((sp_le (by omega) (by omega) (by omega) (by omega)).mpr (by omega))]
/-- a comet that is lost goes nowhere -/
theorem e_go1 {Z : q_Z} {M : q_C} {h o : Nat} {t : Int32} (hz : zK Z h = 10) (hl : gI M h 5 = 1) : fX0_go h (some o) t Z M = some M := by
  unfold fX0_go fX0_go_b80 fX0_go_b153
  rw [q_gdk hz]
  simp only [q_nm]
  have e1 : ∀ y : Int32, q_it (fun x : Int32 × q_C => fX0_go_L5 h (some o) t x.1 Z x.2) q_FU (y, M) = some M := by
    intro y
    refine q_it_x (n := 99999) ?_
    show fX0_go_L5 h (some o) t y Z M = _
    unfold fX0_go_L5
    by_cases hx : t ≤ y
    · rw [if_pos hx]
    · rw [if_neg hx, q_gdk hz, if_neg (by rw [hl]; decide)]
  have e2 : ∀ y : Int32, q_it (fun x : Int32 × q_C => fX0_go_L85 h (some o) t x.1 Z x.2) q_FU (y, M) = some M := by
    intro y
    refine q_it_x (n := 99999) ?_
    show fX0_go_L85 h (some o) t y Z M = _
    unfold fX0_go_L85
    by_cases hx : y ≤ t
    · rw [if_pos hx]
    · rw [if_neg hx, q_gdk hz, if_neg (by rw [hl]; decide)]
  rw [e1, q_bis, q_gdk hz, e2]
  rfl
