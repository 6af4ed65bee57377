/-! the model holds its last way, and puts it back -/
theorem okHd {Z : q_Z} {M : q_C} {m i j : Nat} (hz : zM Z M m) (hi : i < 601) (h1 : 13 ≤ j) (h2 : j < 17) : q_ok Z (m + 1 + j) 2 (nI i) = true := by
  refine q_okT (hz.k2 (by omega) h2) rfl (by omega) ?_
  rw [(hz.2 j (by omega)).2.2]
  rcases (show j = 13 ∨ j = 14 ∨ j = 15 ∨ j = 16 by omega) with rfl | rfl | rfl | rfl <;> exact hi
theorem okLw {Z : q_Z} {M : q_C} {m i j : Nat} (hz : zM Z M m) (hi : i < 601) (h1 : 9 ≤ j) (h2 : j < 13) : q_ok Z (m + 1 + j) 2 (nI (59499 + i)) = true := by
  refine q_okT (hz.k2 h1 (by omega)) rfl (by omega) ?_
  rw [(hz.2 j (by omega)).2.2]
  rcases (show j = 9 ∨ j = 10 ∨ j = 11 ∨ j = 12 by omega) with rfl | rfl | rfl | rfl <;> (show 59499 + i < 60100; omega)
def hd0 (M : q_C) (m i : Nat) : q_C := sJ (sJ (sJ (sJ M (m + 14) i (gJ M (m + 10) (59499 + i))) (m + 15) i (gJ M (m + 11) (59499 + i))) (m + 16) i (gJ M (m + 12) (59499 + i))) (m + 17) i (gJ M (m + 13) (59499 + i))
def hd1 (M : q_C) (m i : Nat) : q_C := sJ (sJ (sJ (sJ M (m + 10) (59499 + i) (gJ M (m + 14) i)) (m + 11) (59499 + i) (gJ M (m + 15) i)) (m + 12) (59499 + i) (gJ M (m + 16) i)) (m + 13) (59499 + i) (gJ M (m + 17) i)
theorem hd0_v (M : q_C) (m i a q : Nat) : gJ (hd0 M m i) a q = if (m + 14 ≤ a ∧ a ≤ m + 17) ∧ q = i then gJ M (a - 4) (59499 + i) else gJ M a q := by
  unfold hd0
  rw [gJ_sJ, gJ_sJ, gJ_sJ, gJ_sJ]
  by_cases h : (m + 14 ≤ a ∧ a ≤ m + 17) ∧ q = i
  · rw [if_pos h]
    obtain ⟨⟨h1, h2⟩, rfl⟩ := h
    rcases (show a = m + 14 ∨ a = m + 15 ∨ a = m + 16 ∨ a = m + 17 by omega) with rfl | rfl | rfl | rfl
    · rw [if_neg (by omega), if_neg (by omega), if_neg (by omega), if_pos ⟨rfl, rfl⟩]; rfl
    · rw [if_neg (by omega), if_neg (by omega), if_pos ⟨rfl, rfl⟩]; rfl
    · rw [if_neg (by omega), if_pos ⟨rfl, rfl⟩]; rfl
    · rw [if_pos ⟨rfl, rfl⟩]; rfl
  · rw [if_neg h, if_neg (by omega), if_neg (by omega), if_neg (by omega), if_neg (by omega)]
theorem hd1_v (M : q_C) (m i a q : Nat) : gJ (hd1 M m i) a q = if (m + 10 ≤ a ∧ a ≤ m + 13) ∧ q = 59499 + i then gJ M (a + 4) i else gJ M a q := by
  unfold hd1
  rw [gJ_sJ, gJ_sJ, gJ_sJ, gJ_sJ]
  by_cases h : (m + 10 ≤ a ∧ a ≤ m + 13) ∧ q = 59499 + i
  · rw [if_pos h]
    obtain ⟨⟨h1, h2⟩, rfl⟩ := h
    rcases (show a = m + 10 ∨ a = m + 11 ∨ a = m + 12 ∨ a = m + 13 by omega) with rfl | rfl | rfl | rfl
    · rw [if_neg (by omega), if_neg (by omega), if_neg (by omega), if_pos ⟨rfl, rfl⟩]
    · rw [if_neg (by omega), if_neg (by omega), if_pos ⟨rfl, rfl⟩]
    · rw [if_neg (by omega), if_pos ⟨rfl, rfl⟩]
    · rw [if_pos ⟨rfl, rfl⟩]
  · rw [if_neg h, if_neg (by omega), if_neg (by omega), if_neg (by omega), if_neg (by omega)]
theorem hd_ix (i : Nat) : (59499 : Int32) + nI i = nI (59499 + i) := by rw [show (59499 : Int32) = nI 59499 from rfl, nI_add]
theorem e_hd0 {Z : q_Z} {M : q_C} {m i : Nat} (hz : zM Z M m) (hi : i < 601) : fX7_holds_L5 m (0 : Int32) (59499 : Int32) (nI i) Z M = some (.inl (nI (i + 1), hd0 M m i)) := by
  have hcmp : ¬ (601 : Int32) ≤ nI i := by rw [show (601 : Int32) = nI 601 from rfl]; exact nI_ge hi (by omega)
  have hA : ∀ (M1 : q_C), M1.2.2 = M.2.2 → zM Z M1 m := fun M1 h => hz.mv h
  unfold fX7_holds_L5 fX7_holds_b131
  rw [if_neg hcmp, if_pos rfl, q_gdk hz.1, hd_ix]
  simp only [q_nm]
  rw [hz.a (f := 26) (k := 13) (by decide) rfl, q_bis, hz.a (f := 17) (k := 9) (by decide) rfl, q_bis, q_gdc (okLw hz hi (by decide) (by decide)), q_gdc (okHd hz hi (by decide) (by decide)), nI_clamp (by omega), nI_clamp (by omega)]
  rw [show m + 1 + 13 = m + 14 from rfl, show m + 1 + 9 = m + 10 from rfl]
  generalize hM1 : sJ M (m + 14) i (gJ M (m + 10) (59499 + i)) = M1
  have z1 : zM Z M1 m := hA M1 (by rw [← hM1]; rfl)
  have v1 : ∀ b q, b ≠ m + 14 → gJ M1 b q = gJ M b q := fun b q h => by rw [← hM1, gJ_a _ _ _ _ h]
  rw [z1.a (f := 27) (k := 14) (by decide) rfl, q_bis, z1.a (f := 18) (k := 10) (by decide) rfl, q_bis, q_gdc (okLw hz hi (by decide) (by decide)), q_gdc (okHd hz hi (by decide) (by decide))]
  rw [show m + 1 + 14 = m + 15 from rfl, show m + 1 + 10 = m + 11 from rfl, v1 _ _ (by omega)]
  generalize hM2 : sJ M1 (m + 15) i (gJ M (m + 11) (59499 + i)) = M2
  have z2 : zM Z M2 m := z1.mv (by rw [← hM2]; rfl)
  have v2 : ∀ b q, b ≠ m + 14 → b ≠ m + 15 → gJ M2 b q = gJ M b q := fun b q h h' => by rw [← hM2, gJ_a _ _ _ _ h']; exact v1 b q h
  rw [z2.a (f := 28) (k := 15) (by decide) rfl, q_bis, z2.a (f := 19) (k := 11) (by decide) rfl, q_bis, q_gdc (okLw hz hi (by decide) (by decide)), q_gdc (okHd hz hi (by decide) (by decide))]
  rw [show m + 1 + 15 = m + 16 from rfl, show m + 1 + 11 = m + 12 from rfl, v2 _ _ (by omega) (by omega)]
  generalize hM3 : sJ M2 (m + 16) i (gJ M (m + 12) (59499 + i)) = M3
  have z3 : zM Z M3 m := z2.mv (by rw [← hM3]; rfl)
  have v3 : gJ M3 (m + 13) (59499 + i) = gJ M (m + 13) (59499 + i) := by rw [← hM3, gJ_a _ _ _ _ (by omega)]; exact v2 _ _ (by omega) (by omega)
  rw [z3.a (f := 29) (k := 16) (by decide) rfl, q_bis, z3.a (f := 20) (k := 12) (by decide) rfl, q_bis, q_gdc (okLw hz hi (by decide) (by decide)), q_gdc (okHd hz hi (by decide) (by decide))]
  rw [show m + 1 + 16 = m + 17 from rfl, show m + 1 + 12 = m + 13 from rfl, v3, nI_1]
  unfold hd0
  rw [hM1, hM2, hM3]
theorem e_hd1 {Z : q_Z} {M : q_C} {m i : Nat} (hz : zM Z M m) (hi : i < 601) : fX7_holds_L5 m (1 : Int32) (59499 : Int32) (nI i) Z M = some (.inl (nI (i + 1), hd1 M m i)) := by
  have hcmp : ¬ (601 : Int32) ≤ nI i := by rw [show (601 : Int32) = nI 601 from rfl]; exact nI_ge hi (by omega)
  unfold fX7_holds_L5 fX7_holds_b131
  rw [if_neg hcmp, if_neg (by decide), q_gdk hz.1, hd_ix]
  simp only [q_nm]
  rw [hz.a (f := 17) (k := 9) (by decide) rfl, q_bis, hz.a (f := 26) (k := 13) (by decide) rfl, q_bis, q_gdc (okHd hz hi (by decide) (by decide)), q_gdc (okLw hz hi (by decide) (by decide)), nI_clamp (by omega), nI_clamp (by omega)]
  rw [show m + 1 + 13 = m + 14 from rfl, show m + 1 + 9 = m + 10 from rfl]
  generalize hM1 : sJ M (m + 10) (59499 + i) (gJ M (m + 14) i) = M1
  have z1 : zM Z M1 m := hz.mv (by rw [← hM1]; rfl)
  have v1 : ∀ b q, b ≠ m + 10 → gJ M1 b q = gJ M b q := fun b q h => by rw [← hM1, gJ_a _ _ _ _ h]
  rw [z1.a (f := 18) (k := 10) (by decide) rfl, q_bis, z1.a (f := 27) (k := 14) (by decide) rfl, q_bis, q_gdc (okHd hz hi (by decide) (by decide)), q_gdc (okLw hz hi (by decide) (by decide))]
  rw [show m + 1 + 14 = m + 15 from rfl, show m + 1 + 10 = m + 11 from rfl, v1 _ _ (by omega)]
  generalize hM2 : sJ M1 (m + 11) (59499 + i) (gJ M (m + 15) i) = M2
  have z2 : zM Z M2 m := z1.mv (by rw [← hM2]; rfl)
  have v2 : ∀ b q, b ≠ m + 10 → b ≠ m + 11 → gJ M2 b q = gJ M b q := fun b q h h' => by rw [← hM2, gJ_a _ _ _ _ h']; exact v1 b q h
  rw [z2.a (f := 19) (k := 11) (by decide) rfl, q_bis, z2.a (f := 28) (k := 15) (by decide) rfl, q_bis, q_gdc (okHd hz hi (by decide) (by decide)), q_gdc (okLw hz hi (by decide) (by decide))]
  rw [show m + 1 + 15 = m + 16 from rfl, show m + 1 + 11 = m + 12 from rfl, v2 _ _ (by omega) (by omega)]
  generalize hM3 : sJ M2 (m + 12) (59499 + i) (gJ M (m + 16) i) = M3
  have z3 : zM Z M3 m := z2.mv (by rw [← hM3]; rfl)
  have v3 : gJ M3 (m + 17) i = gJ M (m + 17) i := by rw [← hM3, gJ_a _ _ _ _ (by omega)]; exact v2 _ _ (by omega) (by omega)
  rw [z3.a (f := 20) (k := 12) (by decide) rfl, q_bis, z3.a (f := 29) (k := 16) (by decide) rfl, q_bis, q_gdc (okHd hz hi (by decide) (by decide)), q_gdc (okLw hz hi (by decide) (by decide))]
  rw [show m + 1 + 16 = m + 17 from rfl, show m + 1 + 12 = m + 13 from rfl, v3, nI_1]
  unfold hd1
  rw [hM1, hM2, hM3]
