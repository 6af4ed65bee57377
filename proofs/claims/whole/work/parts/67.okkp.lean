/-! what is kept is well -/
theorem krow_m {F : Nat → Nat → Bool} {V : Nat → Nat → q_cs} {i : Nat} {e : Nat × Nat × q_cs} : ∀ j, e ∈ krow F V i j → ∃ b, b < j ∧ F i b = true ∧ e = (i, b, V i b) := by
  intro j
  induction j with
  | zero => intro h; cases h
  | succ j ih =>
    intro h
    have h : e ∈ krow F V i j ++ (if F i j = true then [(i, j, V i j)] else []) := h
    rcases List.mem_append.mp h with q | q
    · obtain ⟨b, h1, h2⟩ := ih q
      exact ⟨b, by omega, h2⟩
    · by_cases hF : F i j = true
      · rw [if_pos hF] at q
        exact ⟨j, by omega, hF, List.mem_singleton.mp q⟩
      · rw [if_neg hF] at q; cases q
theorem krows_m {F : Nat → Nat → Bool} {V : Nat → Nat → q_cs} {g : Nat} {e : Nat × Nat × q_cs} : ∀ i, e ∈ krows F V g i → ∃ a b, a < i ∧ b < g ∧ F a b = true ∧ e = (a, b, V a b) := by
  intro i
  induction i with
  | zero => intro h; cases h
  | succ i ih =>
    intro h
    have h : e ∈ krows F V g i ++ krow F V i g := h
    rcases List.mem_append.mp h with q | q
    · obtain ⟨a, b, h1, h2⟩ := ih q
      exact ⟨a, b, by omega, h2⟩
    · obtain ⟨b, h1, h2⟩ := krow_m g q
      exact ⟨i, b, by omega, h1, h2⟩
theorem okW.kp {W : q_W} {p : Nat × Nat} (h : okW W) (hp : W.ba = some p) : okW (kpW W p) := by
  have hbk := h.2.2.1 p hp
  have hn12 := h.2.1.1
  have r1 := (hbk.2.2.1 p.1 hbk.1).2.1
  refine ⟨⟨h.1.1, h.1.1⟩, h.2.1, h.2.2.1, h.2.2.2.1, fun q => absurd (show true = false from q) (by decide), kr_le h.2.2.2.1.2.2, r1, fun e he => ?_⟩
  obtain ⟨a, b, h1, h2, h3, rfl⟩ := krows_m _ (show e ∈ krows (trF W p (-1)) (trV W p) W.gN W.gN from he)
  have hN := h.2.2.2.1.2.2
  refine ⟨?_, ?_, fun hl => ?_⟩
  · show a < 10; omega
  · show b < 10; omega
  · have h0 : TT W.S (W.sg p.1 1).toInt (trV W p a b) (W.sg p.1 1).toInt = none := by rw [TT_0, if_pos hl]
    have h4 : trF W p (-1) a b = false := fa_lost (f := p.1) (fun q => m1_ne (by have := hbk.1; omega) q.symm) hbk.2.2.2.1 h0 W.n hbk.1
    rw [h3] at h4
    cases h4
