theorem e_holds0 {Z : q_Z} {M : q_C} {m : Nat} (hz : zM Z M m) : ∃ M', fX7_holds m (0 : Int32) Z M = some M' ∧ M'.1 = M.1 ∧ M'.2.2 = M.2.2 ∧ ∀ a q, gJ M' a q = if (m + 14 ≤ a ∧ a ≤ m + 17) ∧ q < 601 then gJ M (a - 4) (59499 + q) else gJ M a q := by
  have loop : ∀ (d i f : Nat) (M1 : q_C), i + d = 601 → d + 1 < f → M1.1 = M.1 → M1.2.2 = M.2.2 → (∀ a q, gJ M1 a q = if (m + 14 ≤ a ∧ a ≤ m + 17) ∧ q < i then gJ M (a - 4) (59499 + q) else gJ M a q) →
      ∃ M', q_it (fun x : Int32 × q_C => fX7_holds_L5 m (0 : Int32) (59499 : Int32) x.1 Z x.2) f (nI i, M1) = some M' ∧ M'.1 = M.1 ∧ M'.2.2 = M.2.2 ∧ ∀ a q, gJ M' a q = if (m + 14 ≤ a ∧ a ≤ m + 17) ∧ q < 601 then gJ M (a - 4) (59499 + q) else gJ M a q := by
    intro d
    induction d with
    | zero =>
      intro i f M1 h1 h2 h3 h4 h5
      obtain ⟨f, rfl⟩ : ∃ y, f = y + 1 := ⟨f - 1, by omega⟩
      obtain rfl : i = 601 := by omega
      refine ⟨M1, q_it_x ?_, h3, h4, h5⟩
      show fX7_holds_L5 m (0 : Int32) (59499 : Int32) (nI 601) Z M1 = _
      unfold fX7_holds_L5
      rw [if_pos (by decide)]
    | succ d ih =>
      intro i f M1 h1 h2 h3 h4 h5
      obtain ⟨f, rfl⟩ : ∃ y, f = y + 1 := ⟨f - 1, by omega⟩
      rw [q_it_s (y := (nI (i + 1), hd0 M1 m i)) (e_hd0 (hz.mv h4) (by omega))]
      refine ih (i + 1) f _ (by omega) (by omega) ?_ ?_ (fun a q => ?_)
      · rw [← h3]; rfl
      · rw [← h4]; rfl
      · rw [hd0_v]
        by_cases h : (m + 14 ≤ a ∧ a ≤ m + 17) ∧ q = i
        · rw [if_pos h, if_pos (by omega), h5, if_neg (by omega), h.2]
        · rw [if_neg h, h5]
          by_cases h' : (m + 14 ≤ a ∧ a ≤ m + 17) ∧ q < i
          · rw [if_pos h', if_pos (by omega)]
          · rw [if_neg h', if_neg (by omega)]
  obtain ⟨M', a1, a2⟩ := loop 601 0 q_FU M (by omega) (by unfold q_FU; omega) rfl rfl (fun a q => by rw [if_neg (by omega)])
  rw [nI_0] at a1
  refine ⟨M', ?_, a2⟩
  unfold fX7_holds
  rw [a1, q_bis]
  rfl
theorem e_holds1 {Z : q_Z} {M : q_C} {m : Nat} (hz : zM Z M m) : ∃ M', fX7_holds m (1 : Int32) Z M = some M' ∧ M'.1 = M.1 ∧ M'.2.2 = M.2.2 ∧ ∀ a q, gJ M' a q = if (m + 10 ≤ a ∧ a ≤ m + 13) ∧ (59499 ≤ q ∧ q < 60100) then gJ M (a + 4) (q - 59499) else gJ M a q := by
  have loop : ∀ (d i f : Nat) (M1 : q_C), i + d = 601 → d + 1 < f → M1.1 = M.1 → M1.2.2 = M.2.2 → (∀ a q, gJ M1 a q = if (m + 10 ≤ a ∧ a ≤ m + 13) ∧ (59499 ≤ q ∧ q < 59499 + i) then gJ M (a + 4) (q - 59499) else gJ M a q) →
      ∃ M', q_it (fun x : Int32 × q_C => fX7_holds_L5 m (1 : Int32) (59499 : Int32) x.1 Z x.2) f (nI i, M1) = some M' ∧ M'.1 = M.1 ∧ M'.2.2 = M.2.2 ∧ ∀ a q, gJ M' a q = if (m + 10 ≤ a ∧ a ≤ m + 13) ∧ (59499 ≤ q ∧ q < 60100) then gJ M (a + 4) (q - 59499) else gJ M a q := by
    intro d
    induction d with
    | zero =>
      intro i f M1 h1 h2 h3 h4 h5
      obtain ⟨f, rfl⟩ : ∃ y, f = y + 1 := ⟨f - 1, by omega⟩
      obtain rfl : i = 601 := by omega
      refine ⟨M1, q_it_x ?_, h3, h4, h5⟩
      show fX7_holds_L5 m (1 : Int32) (59499 : Int32) (nI 601) Z M1 = _
      unfold fX7_holds_L5
      rw [if_pos (by decide)]
    | succ d ih =>
      intro i f M1 h1 h2 h3 h4 h5
      obtain ⟨f, rfl⟩ : ∃ y, f = y + 1 := ⟨f - 1, by omega⟩
      rw [q_it_s (y := (nI (i + 1), hd1 M1 m i)) (e_hd1 (hz.mv h4) (by omega))]
      refine ih (i + 1) f _ (by omega) (by omega) ?_ ?_ (fun a q => ?_)
      · rw [← h3]; rfl
      · rw [← h4]; rfl
      · rw [hd1_v]
        by_cases h : (m + 10 ≤ a ∧ a ≤ m + 13) ∧ q = 59499 + i
        · rw [if_pos h, if_pos (by omega), h5, if_neg (by omega), h.2, show 59499 + i - 59499 = i by omega]
        · rw [if_neg h, h5]
          by_cases h' : (m + 10 ≤ a ∧ a ≤ m + 13) ∧ (59499 ≤ q ∧ q < 59499 + i)
          · rw [if_pos h', if_pos (by omega)]
          · rw [if_neg h', if_neg (by omega)]
  obtain ⟨M', a1, a2⟩ := loop 601 0 q_FU M (by omega) (by unfold q_FU; omega) rfl rfl (fun a q => by rw [if_neg (by omega)])
  rw [nI_0] at a1
  refine ⟨M', ?_, a2⟩
  unfold fX7_holds
  rw [a1, q_bis]
  rfl
