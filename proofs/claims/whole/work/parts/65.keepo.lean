/-! the model keeps: all -/
theorem e_mk2 {Z : q_Z} {m : Nat} {W : q_W} {p : Nat × Nat} {M0 : q_C} (hW : okW W) (hp : W.ba = some p) : ∀ (d i f : Nat) (M : q_C), i + d = W.gN → d + 1 < f → mkI Z m W p M0 (krows (trF W p (-1)) (trV W p) W.gN i) M →
    ∃ (M' : q_C), q_it (fun x : Int32 × q_C => fX7_keep_L34 m x.1 Z x.2) f (nI i, M) = some M' ∧ mkI Z m W p M0 (krows (trF W p (-1)) (trV W p) W.gN W.gN) M' := by
  have hN := hW.2.2.2.1
  intro d
  induction d with
  | zero =>
    intro i f M h1 h2 h3
    obtain ⟨f, rfl⟩ : ∃ y, f = y + 1 := ⟨f - 1, by omega⟩
    obtain rfl : i = W.gN := by omega
    refine ⟨M, q_it_x ?_, h3⟩
    show fX7_keep_L34 m (nI W.gN) Z M = _
    unfold fX7_keep_L34
    rw [q_gdk h3.1.1.1, h3.1.2.2.2.2.2.2, if_pos (Int32.le_refl _)]
  | succ d ih =>
    intro i f M h1 h2 h3
    obtain ⟨f, rfl⟩ : ∃ y, f = y + 1 := ⟨f - 1, by omega⟩
    obtain ⟨M1, a1, a2⟩ := e_mk1 hW hp (i := i) (by omega) W.gN 0 q_FU M (by omega) (by unfold q_FU; omega) (by rw [show krow (trF W p (-1)) (trV W p) i 0 = [] from rfl, List.append_nil]; exact h3)
    rw [nI_0] at a1
    have hcmp : ¬ gI M m 10 ≤ nI i := by rw [h3.1.2.2.2.2.2.2]; exact nI_ge (by omega) (by omega)
    have body : fX7_keep_L34 m (nI i) Z M = some (.inl (nI (i + 1), M1)) := by
      unfold fX7_keep_L34
      rw [q_gdk h3.1.1.1, if_neg hcmp, a1, q_bis]
      simp only [q_nm]
      rw [nI_1]
    rw [q_it_s (y := (nI (i + 1), M1)) body]
    exact ih (i + 1) f M1 (by omega) (by omega) a2
/-- the then table, counts and masses alone have changed -/
def thm (m : Nat) (M M' : q_C) : Prop := M'.2 = M.2 ∧ ∀ a, a ≠ m + 3 → a ≠ m + 4 → a ≠ m + 6 → M'.1 a = M.1 a
theorem thm.rf {m : Nat} {M : q_C} : thm m M M := ⟨rfl, fun _ _ _ _ => rfl⟩
theorem thm.tr {m : Nat} {M M1 M2 : q_C} (a : thm m M M1) (b : thm m M1 M2) : thm m M M2 := ⟨b.1.trans a.1, fun x h1 h2 h3 => (b.2 x h1 h2 h3).trans (a.2 x h1 h2 h3)⟩
theorem thm_I {m : Nat} {M M1 : q_C} (a : thm m M M1) {b : Nat} (hb : b = m + 3 ∨ b = m + 4 ∨ b = m + 6) (k : Nat) (v : Int32) : thm m M (sI M1 b k v) := ⟨a.1, fun x h1 h2 h3 => (q_u2a _ _ _ _ (by omega)).trans (a.2 x h1 h2 h3)⟩
theorem thm.I {m : Nat} {M M' : q_C} (a : thm m M M') {b : Nat} (h1 : b ≠ m + 3) (h2 : b ≠ m + 4) (h3 : b ≠ m + 6) (k : Nat) : gI M' b k = gI M b k := congrFun (a.2 b h1 h2 h3) k
theorem thm.z {Z : q_Z} {m : Nat} {M M' : q_C} (a : thm m M M') (h : zM Z M m) : zM Z M' m := h.mv (by rw [a.1])
theorem e_mk3 {Z : q_Z} {m : Nat} {M0 : q_C} (hz : zM Z M0 m) : ∀ (d i f : Nat) (M : q_C), i + d = 160 → d + 1 < f → thm m M0 M → (∀ q, q < i → gI M (m + 4) q = gI M0 (m + 2) q) → (∀ q, gI M (m + 3) q = gI M0 (m + 3) q) →
    ∃ (M' : q_C), q_it (fun x : Int32 × q_C => fX7_keep_L172 m x.1 Z x.2) f (nI i, M) = some M' ∧ thm m M0 M' ∧ (∀ q, q < 160 → gI M' (m + 4) q = gI M0 (m + 2) q) ∧ (∀ q, gI M' (m + 3) q = gI M0 (m + 3) q) := by
  intro d
  induction d with
  | zero =>
    intro i f M h1 h2 h3 h4 h5
    obtain ⟨f, rfl⟩ : ∃ y, f = y + 1 := ⟨f - 1, by omega⟩
    obtain rfl : i = 160 := by omega
    refine ⟨M, q_it_x ?_, h3, h4, h5⟩
    show fX7_keep_L172 m (nI 160) Z M = _
    unfold fX7_keep_L172
    rw [if_pos (by decide)]
  | succ d ih =>
    intro i f M h1 h2 h3 h4 h5
    obtain ⟨f, rfl⟩ : ∃ y, f = y + 1 := ⟨f - 1, by omega⟩
    have hzM := h3.z hz
    have hcmp : ¬ (160 : Int32) ≤ nI i := by rw [show (160 : Int32) = nI 160 from rfl]; exact nI_ge (by omega) (by omega)
    have o1 : q_ok Z (m + 1 + 1) 1 (nI i) = true := q_okT (hzM.k1 (by decide)) rfl (by omega) (by rw [hzM.l (k := 1) (n := 160) (by decide) rfl]; omega)
    have o2 : q_ok Z (m + 1 + 3) 1 (nI i) = true := q_okT (hzM.k1 (by decide)) rfl (by omega) (by rw [hzM.l (k := 3) (n := 160) (by decide) rfl]; omega)
    have body : fX7_keep_L172 m (nI i) Z M = some (.inl (nI (i + 1), sI M (m + 4) i (gI M (m + 2) i))) := by
      unfold fX7_keep_L172
      rw [if_neg hcmp, q_gdk hzM.1, hzM.a (f := 3) (k := 3) (by decide) rfl, q_bis, hzM.a (f := 1) (k := 1) (by decide) rfl, q_bis, q_gdc o1, q_gdc o2, nI_clamp (by omega)]
      simp only [q_nm]
      rw [nI_1]
    rw [q_it_s (y := (nI (i + 1), sI M (m + 4) i (gI M (m + 2) i))) body]
    refine ih (i + 1) f _ (by omega) (by omega) (thm_I h3 (by omega) _ _) (fun q hq => ?_) (fun q => ?_)
    · by_cases e : q = i
      · subst e
        rw [gI_same]
        exact h3.I (by omega) (by omega) (by omega) _
      · rw [gI_k _ _ _ _ e]; exact h4 q (by omega)
    · rw [gI_a _ _ _ _ (by omega)]; exact h5 q
theorem e_mk4 {Z : q_Z} {m : Nat} {M0 : q_C} (hz : zM Z M0 m) : ∃ M', q_it (fun x : Int32 × q_C => fX7_keep_L135 m x.1 Z x.2) q_FU ((0 : Int32), M0) = some M' ∧ thm m M0 M' ∧ (∀ q, q < 2 → gI M' (m + 3) q = gI M0 (m + 1) q) := by
  have one : ∀ (M : q_C) (i : Nat), i < 2 → thm m M0 M → fX7_keep_L135 m (nI i) Z M = some (.inl (nI (i + 1), sI (sI M (m + 3) i (gI M (m + 1) i)) (m + 6) i (gI M (m + 5) i))) := by
    intro M i hi h3
    have hzM := h3.z hz
    have hcmp : ¬ (2 : Int32) ≤ nI i := by rw [show (2 : Int32) = nI 2 from rfl]; exact nI_ge (by omega) (by omega)
    have o : ∀ k n, k < 9 → mLn k = n → 2 ≤ n → q_ok Z (m + 1 + k) 1 (nI i) = true := fun k n h1 h2 h4 => q_okT (hzM.k1 h1) rfl (by omega) (by rw [hzM.l (k := k) (n := n) (by omega) h2]; omega)
    have hz2 : zM Z (sI M (m + 3) i (gI M (m + 1) i)) m := hzM.mv rfl
    unfold fX7_keep_L135
    rw [if_neg hcmp, q_gdk hzM.1, hzM.a (f := 2) (k := 2) (by decide) rfl, q_bis, hzM.a (f := 0) (k := 0) (by decide) rfl, q_bis, q_gdc (o 0 2 (by decide) rfl (by decide)), q_gdc (o 2 2 (by decide) rfl (by decide)), nI_clamp (by omega)]
    simp only [q_nm]
    rw [show m + 1 + 2 = m + 3 from rfl, show m + 1 + 0 = m + 1 from rfl, hz2.a (f := 5) (k := 5) (by decide) rfl, q_bis, hz2.a (f := 4) (k := 4) (by decide) rfl, q_bis, q_gdc (o 4 2 (by decide) rfl (by decide)), q_gdc (o 5 2 (by decide) rfl (by decide)), nI_1, gI_a _ _ _ _ (by omega)]
  have t1 : thm m M0 (sI (sI M0 (m + 3) 0 (gI M0 (m + 1) 0)) (m + 6) 0 (gI M0 (m + 5) 0)) := thm_I (thm_I thm.rf (by omega) _ _) (by omega) _ _
  have b0 := one M0 0 (by decide) thm.rf
  generalize hM1 : sI (sI M0 (m + 3) 0 (gI M0 (m + 1) 0)) (m + 6) 0 (gI M0 (m + 5) 0) = M1 at t1 b0
  have b1 := one M1 1 (by decide) t1
  have t2 : thm m M0 (sI (sI M1 (m + 3) 1 (gI M1 (m + 1) 1)) (m + 6) 1 (gI M1 (m + 5) 1)) := thm_I (thm_I t1 (by omega) _ _) (by omega) _ _
  generalize hM2 : sI (sI M1 (m + 3) 1 (gI M1 (m + 1) 1)) (m + 6) 1 (gI M1 (m + 5) 1) = M2 at t2 b1
  have b2 : fX7_keep_L135 m (nI 2) Z M2 = some (.inr M2) := by
    unfold fX7_keep_L135
    rw [if_pos (by decide)]
  refine ⟨M2, ?_, t2, fun q hq => ?_⟩
  · rw [show q_FU = 99997 + 1 + 1 + 1 from rfl, show (0 : Int32) = nI 0 from rfl, q_it_s (y := (nI 1, M1)) b0, q_it_s (y := (nI 2, M2)) b1, q_it_x b2]
  · rcases (show q = 0 ∨ q = 1 by omega) with rfl | rfl
    · rw [← hM2, gI_a _ _ _ _ (by omega), gI_k _ _ _ _ (by decide), ← hM1, gI_a _ _ _ _ (by omega), gI_same]
    · rw [← hM2, gI_a _ _ _ _ (by omega), gI_same]
      exact t1.I (by omega) (by omega) (by omega) _
