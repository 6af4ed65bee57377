theorem MW.sm {Z : q_Z} {M M' : q_C} {m : Nat} {W : q_W} (h : MW Z M m W) (e : M'.1 = M.1) (er : M'.2.2 = M.2.2) (ej : ∀ a q, m + 10 ≤ a → a ≤ m + 13 → gJ M' a q = gJ M a q) : MW Z M' m W := by
  obtain ⟨⟨h1, h2, h3, h4, h5, h6, h7, h8, h9⟩, hK⟩ := h
  have hi : ∀ a k, gI M' a k = gI M a k := fun a k => by unfold gI; rw [e]
  refine ⟨⟨h1.mv er, h2.mv e, h3.mv e, h4.mv e, ?_, ?_, ?_, ?_, ?_⟩, fun k x hx => ?_⟩
  · rw [hi, hi]; exact h5
  · rw [hi, hi, hi]; exact h6
  · rw [hi]; exact h7
  · rw [hi]; exact h8
  · rw [hi]; exact h9
  · obtain ⟨w1, w2, lo, hi2, b1, b2, b3, b4, b5, b6, b7⟩ := hK k x hx
    refine ⟨by rw [hi]; exact w1, by rw [hi]; exact w2, lo, hi2, b1, b2, b3, b4, by rw [hi]; exact b5, by rw [hi]; exact b6, fun u q1 q2 => ⟨(b7 u q1 q2).1, fun c hc => ?_⟩⟩
    unfold st4
    rw [ej _ _ (by omega) (by omega), ej _ _ (by omega) (by omega), ej _ _ (by omega) (by omega), ej _ _ (by omega) (by omega)]
    exact (b7 u q1 q2).2 c hc
theorem e_isSg {Z : q_Z} {M : q_C} {m n : Nat} {sg : Nat → Nat → Int32} (hz : zM Z M m) (hg : M_sg M m n sg) (v : Int32) : fX7_isSight m v Z M = some (bi (¬ (v < 0 ∨ nI n ≤ v))) := by
  unfold fX7_isSight fX7_isSight_b16 fX7_isSight_b17
  by_cases h1 : v < 0
  · rw [if_pos h1, q_gdc (by decide), bi_f (fun q => q (Or.inl h1))]
  · rw [if_neg h1, q_gdk hz.1, hg.2.1]
    by_cases h2 : nI n ≤ v
    · rw [if_pos h2, q_gdc (by decide), bi_f (fun q => q (Or.inr h2))]
    · have h3 : ¬ (v < 0 ∨ nI n ≤ v) := fun q => q.elim h1 h2
      rw [if_neg h2, q_gdc (by decide), bi_t h3]
theorem e_withM {Z : q_Z} {M : q_C} {m : Nat} {W : q_W} (hB : MW Z M m W) (hW : okW W) (v : Int32) :
    ∃ (M' : q_C), fX7_without m v Z M = some (woR W v, M') ∧ MW Z M' m W ∧ q_ag (fun a => ¬ (m ≤ a ∧ a ≤ m + 17)) M M' := by
  obtain ⟨⟨h1, h2, h3, h4, h5, h6, h7, h8, h9⟩, hK⟩ := id hB
  unfold fX7_without fX7_without_b32 woR
  rw [q_gdk h1.1, h5.1, h5.2]
  unfold w_b1 w_b2
  cases hp : W.ba with
  | none => exact ⟨M, by rw [if_pos rfl], hB, q_ag.rf⟩
  | some p =>
    have hbk := hW.2.2.1 p hp
    have hn12 := hW.2.1.1
    dsimp only
    rw [if_neg (fun q => m1_ne (by have := hbk.1; omega) q.symm), e_isSg h1 h4, q_bis, bi_if]
    by_cases hv : v < 0 ∨ nI W.n ≤ v
    · rw [if_neg (fun q => q hv), if_pos hv]
      exact ⟨M, rfl, hB, q_ag.rf⟩
    · rw [if_pos hv, if_neg hv]
      by_cases q1 : v = nI p.1
      · rw [if_pos q1, if_pos (Or.inl q1)]
        exact ⟨M, rfl, hB, q_ag.rf⟩
      · rw [if_neg q1]
        by_cases q2 : v = nI p.2
        · rw [if_pos q2, if_pos (Or.inr q2)]
          exact ⟨M, rfl, hB, q_ag.rf⟩
        · rw [if_neg q2, if_neg (fun q => q.elim q1 q2)]
          obtain ⟨k1, k2⟩ := okAl0 (k := 99) h1 (by decide)
          obtain ⟨k3, k4⟩ := okAl (k := 99) (j := 1) h1 (by decide) (by decide)
          rw [show nI 99 = (99 : Int32) from rfl] at k1 k2 k3 k4
          rw [show nI 1 = (1 : Int32) from rfl] at k3 k4
          rw [h1.a (f := 16) (k := 8) (by decide) rfl, q_bis, q_gdc k1, k2]
          simp only [q_nm]
          rw [q_bis, q_gdc k3, k4, show m + 1 + 8 = m + 9 from rfl]
          obtain ⟨M1, a1, a2, a3, a4⟩ := e_holds0 h1
          have hB1 : MB Z M1 m W := by
            have hi : ∀ a k, gI M1 a k = gI M a k := fun a k => by unfold gI; rw [a2]
            exact ⟨h1.mv a3, h2.mv a2, h4.mv a2, by rw [hi, hi]; exact h5, by rw [hi, hi, hi]; exact h6⟩
          obtain ⟨M2, b1, b2, b3⟩ := e_mw2 (v := v) (c3 := gI M (m + 9) (2 * 99)) (c4 := gI M (m + 9) (2 * 99 + 1)) (M0 := M1) hW hp W.gN 0 q_FU M1 (by omega) (by have := hW.2.2.2.1; unfold q_FU; omega) hB1 fov.rf
          rw [show nI (krows (trF W p v) (trV W p) W.gN 0).length = (0 : Int32) from rfl, nI_0] at b1
          obtain ⟨M3, c1, c2, c3, c4⟩ := e_holds1 b2.1
          have z3 : zM Z M3 m := b2.1.mv c3
          rw [a1, q_bis, b1, q_bis, c1, q_bis, z3.a (f := 16) (k := 8) (by decide) rfl, q_bis, q_gdc k1]
          generalize hM4 : sI M3 (m + 1 + 8) (2 * 99) (gI M (m + 9) (2 * 99)) = M4
          have z4 : zM Z M4 m := z3.mv (by rw [← hM4]; rfl)
          rw [z4.a (f := 16) (k := 8) (by decide) rfl, q_bis, q_gdc k3]
          generalize hM5 : sI M4 (m + 1 + 8) (2 * 99 + 1) (gI M (m + 9) (2 * 99 + 1)) = M5
          have r5 : M5.2.2 = M.2.2 := by
            have : M5.2.2 = M3.2.2 := by rw [← hM5, ← hM4]; rfl
            rw [this, c3, b3.1, a3]
          have i5 : M5.1 = M.1 := by
            funext a q
            show gI M5 a q = gI M a q
            have e2 : ¬ (a = m + 9 ∧ (q = 2 * 99 ∨ q = 2 * 99 + 1)) → gI M3 a q = gI M a q := fun hq => by
              have e3 : gI M3 a q = gI M2 a q := by unfold gI; rw [c2]
              have e4 : gI M1 a q = gI M a q := by unfold gI; rw [a2]
              rw [e3, b3.2.1 a q hq, e4]
            rw [← hM5, gI_sI, ← hM4, gI_sI]
            by_cases w1 : a = m + 1 + 8 ∧ q = 2 * 99 + 1
            · rw [if_pos w1, w1.1, w1.2]
            · rw [if_neg w1]
              by_cases w2 : a = m + 1 + 8 ∧ q = 2 * 99
              · rw [if_pos w2, w2.1, w2.2]
              · rw [if_neg w2]
                exact e2 (by omega)
          have j5 : ∀ a q, gJ M5 a q = gJ M3 a q := fun a q => by rw [← hM5, gJ_sI, ← hM4, gJ_sI]
          have jx : ∀ a q, m + 10 ≤ a → a ≤ m + 13 → gJ M5 a q = gJ M a q := by
            intro a q g1 g2
            rw [j5, c4]
            by_cases w : (m + 10 ≤ a ∧ a ≤ m + 13) ∧ (59499 ≤ q ∧ q < 60100)
            · rw [if_pos w, b3.2.2 _ _ (by omega) (by omega), a4, if_pos (by omega), show a + 4 - 4 = a by omega, show 59499 + (q - 59499) = q by omega]
            · rw [if_neg w, b3.2.2 _ _ (by omega) (by omega), a4, if_neg (by omega)]
          refine ⟨M5, rfl, hB.sm i5 r5 jx, fun a ha => ⟨by rw [i5], funext fun q => ?_, by rw [r5]⟩⟩
          show gJ M5 a q = gJ M a q
          rw [j5, c4, if_neg (by omega), b3.2.2 _ _ (by omega) (by omega), a4, if_neg (by omega)]
