/-! the root by Newton's steps -/
theorem nw_hi {s k r : Nat} (h2 : s < (k + 1) * (k + 1)) (hr : k < r) : s / r ≤ k := by
  have : s / r < k + 1 := by
    rw [Nat.div_lt_iff_lt_mul (by omega)]
    exact Nat.lt_of_lt_of_le h2 (Nat.mul_le_mul_left (k + 1) hr)
  omega
theorem nw_lo {s k r : Nat} (h1 : k * k ≤ s) (hr : k ≤ r) (h0 : 0 < r) : 2 * k ≤ r + s / r := by
  rcases Nat.lt_or_ge (r + s / r) (2 * k) with q | q
  · exfalso
    obtain ⟨d, rfl⟩ : ∃ d, r = k + d := ⟨r - k, by omega⟩
    have hdk : d ≤ k := by
      have := Nat.zero_le (s / (k + d))
      omega
    have h3 : s < (s / (k + d) + 1) * (k + d) := by
      have := Nat.lt_mul_div_succ s h0
      rw [Nat.mul_comm] at this
      exact this
    have h4 : s / (k + d) + 1 ≤ k - d := by omega
    have h5 : (s / (k + d) + 1) * (k + d) ≤ (k - d) * (k + d) := Nat.mul_le_mul_right _ h4
    obtain ⟨e, rfl⟩ : ∃ e, k = d + e := ⟨k - d, by omega⟩
    rw [show d + e - d = e by omega] at h5
    have h6 : e * (d + e + d) ≤ (d + e) * (d + e) := by
      rw [Nat.mul_add, Nat.mul_add, Nat.add_mul, Nat.mul_add, Nat.mul_add]
      have := Nat.mul_comm e d
      omega
    omega
  · exact q
/-- with j turns left and less than 2 ^ j to go, Newton's loop ends at the root -/
theorem e_len_loop {s : Nat} (hs : s < 4611686018427387904) : ∀ (j r f : Nat), j ≤ 64 → q_sqrt s ≤ r → r - q_sqrt s < 2 ^ j → r < 4611686018427387904 → j + 1 < f →
    ∃ o : Int64 ⊕ Int64, q_it (fun x : Int64 × Int32 => fX6_length_L39 (lN s) x.1 x.2) f (lN r, nI (64 - j)) = some o ∧ q_sm o (fun v => v) (fun v => v) = lN (q_sqrt s) := by
  obtain ⟨g1, g2⟩ := q_sq_ok s
  intro j
  induction j with
  | zero =>
    intro r f h0 h1 h2 h3 h4
    obtain ⟨f, rfl⟩ : ∃ g, f = g + 1 := ⟨f - 1, by omega⟩
    have hr : r = q_sqrt s := by
      rw [Nat.pow_zero] at h2
      omega
    subst hr
    refine ⟨.inr (lN (q_sqrt s)), q_it_x ?_, rfl⟩
    show fX6_length_L39 (lN s) (lN (q_sqrt s)) (nI 64) = _
    unfold fX6_length_L39
    rw [if_pos (by decide)]
  | succ j ih =>
    intro r f h0 h1 h2 h3 h4
    obtain ⟨f, rfl⟩ : ∃ g, f = g + 1 := ⟨f - 1, by omega⟩
    have hc : ¬ (64 : Int32) ≤ nI (64 - (j + 1)) := fun q => by
      have := (nI_leI (a := 64) (b := 64 - (j + 1)) (by decide) (by omega)).mp q
      omega
    by_cases hr0 : r = 0
    · subst hr0
      have hk : q_sqrt s = 0 := by omega
      refine ⟨.inr (lN 0), q_it_x ?_, by rw [hk]; rfl⟩
      show fX6_length_L39 (lN s) (lN 0) (nI (64 - (j + 1))) = _
      unfold fX6_length_L39
      rw [if_neg hc, if_pos (by decide)]
    · have hpos : ¬ lN r ≤ (0 : Int64) := fun q => by
        have := (pk_lLE (a := r) (b := 0) (by omega) (by decide)).mp q
        omega
      have hne : ¬ lN r = 0 := fun q => by
        have := (pk_lEQ (a := r) (b := 0) (by omega) (by decide)).mp q
        omega
      have hd : s / r ≤ s := Nat.div_le_self s r
      have hnx : (lN r + lN s / lN r) / (2 : Int64) = lN ((r + s / r) / 2) := by
        rw [pk_lDiv (by omega) (by omega) (by omega), lN_add]
        exact pk_lDiv (by omega) (by decide) (by decide)
      by_cases hrk : r = q_sqrt s
      · -- at the root: the next one is not below
        have hge : r ≤ (r + s / r) / 2 := by
          have := nw_lo g1 (by omega : q_sqrt s ≤ r) (by omega)
          omega
        refine ⟨.inl (lN r), q_it_x ?_, by rw [hrk]; rfl⟩
        show fX6_length_L39 (lN s) (lN r) (nI (64 - (j + 1))) = _
        unfold fX6_length_L39
        rw [if_neg hc, if_neg hpos, q_gdc (by simp [hne]), q_gdc (by decide), hnx]
        simp only [q_nm]
        rw [if_neg (fun q => ?_)]
        have := (pk_lLT (a := (r + s / r) / 2) (b := r) (by omega) (by omega)).mp q
        omega
      · have hhi := nw_hi g2 (by omega : q_sqrt s < r)
        have hlo := nw_lo g1 h1 (by omega)
        have hlt : (r + s / r) / 2 < r := by omega
        obtain ⟨o, h5, h6⟩ := ih ((r + s / r) / 2) f (by omega) (by omega) (by rw [Nat.pow_succ] at h2; omega) (by omega) (by omega)
        refine ⟨o, ?_, h6⟩
        rw [q_it_s (y := (lN ((r + s / r) / 2), nI (64 - j)))]
        · exact h5
        · show fX6_length_L39 (lN s) (lN r) (nI (64 - (j + 1))) = _
          unfold fX6_length_L39
          rw [if_neg hc, if_neg hpos, q_gdc (by simp [hne]), q_gdc (by decide), hnx]
          simp only [q_nm]
          rw [if_pos ((pk_lLT (by omega) (by omega)).mpr hlt)]
          rw [nI_1, show 64 - (j + 1) + 1 = 64 - j by omega]
theorem q_sq_le (a b : Nat) : q_sqrt (a * a + b * b) ≤ a + b := by
  have h := (q_sq_ok (a * a + b * b)).1
  have : q_sqrt (a * a + b * b) < a + b + 1 := q_sq_mono (by
    have : (a + b + 1) * (a + b + 1) = a * a + b * b + 2 * (a * b) + 2 * (a + b) + 1 := by
      rw [Nat.add_mul, Nat.mul_add, Nat.add_mul, Nat.mul_add, Nat.mul_add]
      have := Nat.mul_comm b a
      omega
    omega)
  omega
theorem e_length {p q : Int64} (hp : nA p < 1073741824) (hq : nA q < 1073741824) : fX6_length p q = some (lN (q_sqrt (nA p * nA p + nA q * nA q))) := by
  have hpp : nA p * nA p ≤ 1073741824 * 1073741824 := Nat.mul_le_mul (by omega) (by omega)
  have hqq : nA q * nA q ≤ 1073741824 * 1073741824 := Nat.mul_le_mul (by omega) (by omega)
  have hs : p * p + q * q = lN (nA p * nA p + nA q * nA q) := by rw [l_sq (by omega), l_sq (by omega), lN_add]
  have h33 : fX6_length_b33 (lN (nA p * nA p + nA q * nA q)) (lN (nA q)) (lN (nA p)) = some (lN (q_sqrt (nA p * nA p + nA q * nA q))) := by
    unfold fX6_length_b33
    simp only [q_nm]
    have hle := q_sq_le (nA p) (nA q)
    obtain ⟨o, h5, h6⟩ := e_len_loop (s := nA p * nA p + nA q * nA q) (by omega) 64 (nA p + nA q) q_FU (by omega) hle (by omega) (by omega) (by decide)
    rw [lN_add]
    rw [show (nI (64 - 64)) = (0 : Int32) from rfl] at h5
    rw [h5, q_bis]
    cases o with
    | inl v => exact congrArg some h6
    | inr v => exact congrArg some h6
  have hap := l_abs (x := p) (by omega)
  have haq := l_abs (x := q) (by omega)
  unfold fX6_length
  simp only [q_nm]
  rw [hs]
  have h21 : ∀ a : Int64, a = lN (nA p) → fX6_length_b21 q (lN (nA p * nA p + nA q * nA q)) a = some (lN (q_sqrt (nA p * nA p + nA q * nA q))) := by
    intro a ha
    subst ha
    unfold fX6_length_b21
    by_cases h : (0 : Int64) ≤ q
    · rw [if_pos h] at haq ⊢
      rw [haq]; rw [haq] at h33
      have : nA (lN (nA q)) = nA q := by rw [← haq]
      rw [this] at h33 ⊢
      exact h33
    · rw [if_neg h] at haq ⊢
      rw [haq]; exact h33
  by_cases h : (0 : Int64) ≤ p
  · rw [if_pos h] at hap ⊢
    exact h21 p hap
  · rw [if_neg h] at hap ⊢
    exact h21 (-p) hap
