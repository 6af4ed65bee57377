/-! the model counts without one sight -/
theorem e_mw1 {Z : q_Z} {m : Nat} {W : q_W} {p : Nat × Nat} {v c3 c4 : Int32} {M0 : q_C} (hW : okW W) (hp : W.ba = some p) {i : Nat} (hi : i < W.gN) : ∀ (d j f : Nat) (M : q_C), j + d = W.gN → d + 1 < f → MB Z M m W → fov m 99 M0 M →
    ∃ (M' : q_C), q_it (fun x : Int32 × Int32 × q_C => fX7_without_L81 m v (99 : Int32) c3 c4 (nI i) x.1 x.2.1 Z x.2.2) f (nI (krows (trF W p v) (trV W p) W.gN i ++ krow (trF W p v) (trV W p) i j).length, nI j, M) = some (nI (krows (trF W p v) (trV W p) W.gN (i + 1)).length, M') ∧ MB Z M' m W ∧ fov m 99 M0 M' := by
  have hN := hW.2.2.2.1
  have hbk := hW.2.2.1 p hp
  intro d
  induction d with
  | zero =>
    intro j f M h1 h2 h3 h4
    obtain ⟨f, rfl⟩ : ∃ y, f = y + 1 := ⟨f - 1, by omega⟩
    obtain rfl : j = W.gN := by omega
    refine ⟨M, q_it_x ?_, h3, h4⟩
    show fX7_without_L81 m v (99 : Int32) c3 c4 (nI i) _ (nI W.gN) Z M = _
    unfold fX7_without_L81
    rw [q_gdk h3.1.1, h3.2.2.2.2.2.2, if_pos (Int32.le_refl _)]
    rfl
  | succ d ih =>
    intro j f M h1 h2 h3 h4
    obtain ⟨f, rfl⟩ : ∃ y, f = y + 1 := ⟨f - 1, by omega⟩
    have hj : j < W.gN := by omega
    generalize hl : krows (trF W p v) (trV W p) W.gN i ++ krow (trF W p v) (trV W p) i j = l
    have hl2 : krows (trF W p v) (trV W p) W.gN i ++ krow (trF W p v) (trV W p) i (j + 1) = l ++ (if trF W p v i j = true then [(i, j, trV W p i j)] else []) := by
      rw [← hl, List.append_assoc]; rfl
    have hcmp : ¬ gI M m 10 ≤ nI j := by rw [h3.2.2.2.2.2.2]; exact nI_ge hj (by omega)
    obtain ⟨M1, M2, a1, a2, a3, a4, a5, a6⟩ := e_mtry (but := v) (i := i) (j := j) (k := 99) h3 hW hp (by decide)
    have hB1 : MB Z M1 m W := h3.fv (k := 99) a2.f
    have e11 : gI M1 m 11 = nI p.1 := by rw [hB1.2.2.2.1.1]; unfold w_b1; rw [hp]
    obtain ⟨o1, v1⟩ := M_sg.at (k := 1) hB1.1 hB1.2.2.1 hbk.1 (by decide)
    rw [show nI 1 = (1 : Int32) from rfl] at o1 v1
    have body : fX7_without_L81 m v (99 : Int32) c3 c4 (nI i) (nI l.length) (nI j) Z M = some (.inl (nI (l ++ (if trF W p v i j = true then [(i, j, trV W p i j)] else [])).length, nI (j + 1), M2)) := by
      unfold fX7_without_L81 fX7_without_b132
      rw [q_gdk h3.1.1, if_neg hcmp, a1, q_bis, hB1.1.a (f := 7) (k := 6) (by decide) rfl, q_bis, e11, q_gdc o1, v1, show (99 : Int32) = nI 99 from rfl, a3, q_bis, a4, q_bis, bi_if]
      simp only [q_nm]
      by_cases hF : trF W p v i j = true
      · rw [if_pos hF, if_pos hF, nI_1, nI_1, List.length_append]; rfl
      · rw [if_neg hF, if_neg hF, nI_1, Int32.add_zero, List.append_nil]
    rw [q_it_s (y := (_, nI (j + 1), M2)) body, ← hl2]
    exact ih (j + 1) f M2 (by omega) (by omega) (h3.fv a5) (h4.tr a5)
theorem e_mw2 {Z : q_Z} {m : Nat} {W : q_W} {p : Nat × Nat} {v c3 c4 : Int32} {M0 : q_C} (hW : okW W) (hp : W.ba = some p) : ∀ (d i f : Nat) (M : q_C), i + d = W.gN → d + 1 < f → MB Z M m W → fov m 99 M0 M →
    ∃ (M' : q_C), q_it (fun x : Int32 × Int32 × q_C => fX7_without_L69 m v (99 : Int32) c3 c4 x.1 x.2.1 Z x.2.2) f (nI (krows (trF W p v) (trV W p) W.gN i).length, nI i, M) = some (nI (krows (trF W p v) (trV W p) W.gN W.gN).length, M') ∧ MB Z M' m W ∧ fov m 99 M0 M' := by
  have hN := hW.2.2.2.1
  intro d
  induction d with
  | zero =>
    intro i f M h1 h2 h3 h4
    obtain ⟨f, rfl⟩ : ∃ y, f = y + 1 := ⟨f - 1, by omega⟩
    obtain rfl : i = W.gN := by omega
    refine ⟨M, q_it_x ?_, h3, h4⟩
    show fX7_without_L69 m v (99 : Int32) c3 c4 _ (nI W.gN) Z M = _
    unfold fX7_without_L69
    rw [q_gdk h3.1.1, h3.2.2.2.2.2.2, if_pos (Int32.le_refl _)]
  | succ d ih =>
    intro i f M h1 h2 h3 h4
    obtain ⟨f, rfl⟩ : ∃ y, f = y + 1 := ⟨f - 1, by omega⟩
    obtain ⟨M1, a1, a2, a3⟩ := e_mw1 (v := v) (c3 := c3) (c4 := c4) (M0 := M0) hW hp (i := i) (by omega) W.gN 0 q_FU M (by omega) (by unfold q_FU; omega) h3 h4
    rw [show krow (trF W p v) (trV W p) i 0 = [] from rfl, List.append_nil, nI_0] at a1
    have hcmp : ¬ gI M m 10 ≤ nI i := by rw [h3.2.2.2.2.2.2]; exact nI_ge (by omega) (by omega)
    have body : fX7_without_L69 m v (99 : Int32) c3 c4 (nI (krows (trF W p v) (trV W p) W.gN i).length) (nI i) Z M = some (.inl (nI (krows (trF W p v) (trV W p) W.gN (i + 1)).length, nI (i + 1), M1)) := by
      unfold fX7_without_L69
      rw [q_gdk h3.1.1, if_neg hcmp, a1, q_bis]
      simp only [q_nm]
      rw [nI_1]
    rw [q_it_s (y := (_, nI (i + 1), M1)) body]
    exact ih (i + 1) f M1 (by omega) (by omega) a2 a3
