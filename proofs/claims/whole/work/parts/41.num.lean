/-! NUMBERS: the root, two ways -/
theorem l_bm {x : Int} (h1 : -9223372036854775808 ≤ x) (h2 : x < 9223372036854775808) : x.bmod (2 ^ 64) = x := by
  rw [Int.bmod_def]
  split <;> omega
theorem l_bm32 {x : Int} (h1 : -2147483648 ≤ x) (h2 : x < 2147483648) : x.bmod (2 ^ 32) = x := by
  rw [Int.bmod_def]
  split <;> omega
theorem tI_add {a b : Int64} (h1 : -9223372036854775808 ≤ a.toInt + b.toInt) (h2 : a.toInt + b.toInt < 9223372036854775808) : (a + b).toInt = a.toInt + b.toInt := by rw [Int64.toInt_add, l_bm h1 h2]
theorem tI_sub {a b : Int64} (h1 : -9223372036854775808 ≤ a.toInt - b.toInt) (h2 : a.toInt - b.toInt < 9223372036854775808) : (a - b).toInt = a.toInt - b.toInt := by rw [Int64.toInt_sub, l_bm h1 h2]
theorem tI_mul {a b : Int64} (h1 : -9223372036854775808 ≤ a.toInt * b.toInt) (h2 : a.toInt * b.toInt < 9223372036854775808) : (a * b).toInt = a.toInt * b.toInt := by rw [Int64.toInt_mul, l_bm h1 h2]
theorem tI_neg {a : Int64} (h1 : -9223372036854775808 < a.toInt) : (-a).toInt = -a.toInt := by
  have := Int64.toInt_lt a
  rw [Int64.toInt_neg, l_bm (by omega) (by omega)]
theorem lN_T {n : Nat} (h : n < 9223372036854775808) : (lN n).toInt = (n : Int) := pk_lT h
theorem l_eq {a b : Int64} (h : a.toInt = b.toInt) : a = b := Int64.toInt_inj.mp h
theorem i_eq {a b : Int32} (h : a.toInt = b.toInt) : a = b := Int32.toInt_inj.mp h
def nA (x : Int64) : Nat := x.toInt.natAbs
theorem nA_lt (x : Int64) : (x.toInt = (nA x : Int) ∨ x.toInt = -(nA x : Int)) := by unfold nA; omega
theorem l_abs {x : Int64} (h : nA x < 9223372036854775808) : (if (0 : Int64) ≤ x then x else -x) = lN (nA x) := by
  have h0 : (0 : Int64).toInt = 0 := rfl
  have hx := nA_lt x
  have h2 := Int64.le_toInt x
  by_cases hc : (0 : Int64) ≤ x
  · rw [if_pos hc]
    rw [Int64.le_iff_toInt_le, h0] at hc
    refine l_eq ?_
    rw [lN_T h]; omega
  · rw [if_neg hc]
    rw [Int64.le_iff_toInt_le, h0] at hc
    refine l_eq ?_
    rw [lN_T h, tI_neg (by omega)]; omega
theorem l_sq {x : Int64} (h : nA x < 2147483648) : x * x = lN (nA x * nA x) := by
  have h1 : nA x * nA x < 9223372036854775808 := Nat.lt_of_le_of_lt (Nat.mul_le_mul (Nat.le_of_lt h) (Nat.le_of_lt h)) (by decide)
  have h2 : x.toInt * x.toInt = ((nA x * nA x : Nat) : Int) := by
    rw [Int.natCast_mul]
    rcases nA_lt x with q | q <;> rw [q]
    rw [Int.neg_mul_neg]
  refine l_eq ?_
  rw [tI_mul (by rw [h2]; omega) (by rw [h2]; omega), h2, lN_T h1]
def q_sqrt : Nat → Nat
  | 0 => 0
  | n + 1 => if (q_sqrt n + 1) * (q_sqrt n + 1) ≤ n + 1 then q_sqrt n + 1 else q_sqrt n
theorem q_sq_ok (n : Nat) : q_sqrt n * q_sqrt n ≤ n ∧ n < (q_sqrt n + 1) * (q_sqrt n + 1) := by
  induction n with
  | zero => decide
  | succ n ih =>
    unfold q_sqrt
    by_cases h : (q_sqrt n + 1) * (q_sqrt n + 1) ≤ n + 1
    · rw [if_pos h]
      refine ⟨h, ?_⟩
      have e : (q_sqrt n + 1 + 1) * (q_sqrt n + 1 + 1) = (q_sqrt n + 1) * (q_sqrt n + 1) + 2 * (q_sqrt n + 1) + 1 := by
        rw [Nat.add_mul, Nat.mul_add]; omega
      omega
    · rw [if_neg h]
      omega
theorem q_sq_mono {a b : Nat} (h : a * a < b * b) : a < b := by
  rcases Nat.lt_or_ge a b with q | q
  · exact q
  · exact absurd h (Nat.not_lt.mpr (Nat.mul_le_mul q q))
theorem q_sq_un {n k : Nat} (h1 : k * k ≤ n) (h2 : n < (k + 1) * (k + 1)) : k = q_sqrt n := by
  obtain ⟨g1, g2⟩ := q_sq_ok n
  have a1 : k < q_sqrt n + 1 := q_sq_mono (by omega)
  have a2 : q_sqrt n < k + 1 := q_sq_mono (by omega)
  omega
theorem l_shr : ∀ k, k < 32 → lN (2 ^ (k + 1)) >>> ((1 : Int32).toInt64 &&& 63) = lN (2 ^ k) := by decide +kernel
theorem l_shr0 : lN 1 >>> ((1 : Int32).toInt64 &&& 63) = 0 := by decide +kernel
/-- the bit by bit root: what its loop holds with k bits left -/
theorem e_root_loop {s : Nat} (hs : s < 4611686018427387904) : ∀ (k n f : Nat), n * n ≤ s → s < (n + 2 ^ k) * (n + 2 ^ k) → n + 2 ^ k ≤ 2147483648 → k + 1 < f →
    q_it (fun x : Int64 × Int64 => fX7_root_L7 (lN s) x.1 x.2) f (lN n, if k = 0 then 0 else lN (2 ^ (k - 1))) = some (lN (q_sqrt s)) := by
  intro k
  induction k with
  | zero =>
    intro n f h1 h2 h3 h4
    obtain ⟨f, rfl⟩ : ∃ g, f = g + 1 := ⟨f - 1, by omega⟩
    refine q_it_x ?_
    show fX7_root_L7 (lN s) (lN n) (if 0 = 0 then 0 else _) = _
    unfold fX7_root_L7
    rw [if_pos rfl, if_pos (by decide)]
    rw [q_sq_un h1 h2]
  | succ k ih =>
    intro n f h1 h2 h3 h4
    obtain ⟨f, rfl⟩ : ∃ g, f = g + 1 := ⟨f - 1, by omega⟩
    have hp : 2 ^ (k + 1) = 2 * 2 ^ k := by rw [Nat.pow_succ]; omega
    have hk1 : 1 ≤ 2 ^ k := Nat.one_le_two_pow
    have hb : k < 31 := by
      rcases Nat.lt_or_ge k 31 with q | q
      · exact q
      · have : 2 ^ 31 ≤ 2 ^ k := Nat.pow_le_pow_right (by decide) q
        have : 2 ^ 31 = 2147483648 := by decide
        omega
    have hm : (n + 2 ^ k) * (n + 2 ^ k) ≤ 2147483648 * 2147483648 := Nat.mul_le_mul (by omega) (by omega)
    have hsq : (lN n + lN (2 ^ k)) * (lN n + lN (2 ^ k)) = lN ((n + 2 ^ k) * (n + 2 ^ k)) := by rw [lN_add, lN_mul]
    have hsh : ∀ (y : Int64), y = lN (2 ^ k) → y >>> ((1 : Int32).toInt64 &&& 63) = if k = 0 then 0 else lN (2 ^ (k - 1)) := by
      intro y hy
      subst hy
      by_cases h0 : k = 0
      · subst h0; rw [if_pos rfl]; exact l_shr0
      · rw [if_neg h0]
        have := l_shr (k - 1) (by omega)
        rw [show k - 1 + 1 = k by omega] at this
        exact this
    have hpos : ¬ lN (2 ^ k) ≤ (0 : Int64) := by
      have := pk_lLE (a := 2 ^ k) (b := 0) (by omega) (by decide)
      intro q
      have := this.mp q
      omega
    rw [if_neg (by omega : ¬ k + 1 = 0), show k + 1 - 1 = k by omega]
    by_cases hc : lN s < (lN n + lN (2 ^ k)) * (lN n + lN (2 ^ k))
    · have hc2 : s < (n + 2 ^ k) * (n + 2 ^ k) := by
        rw [hsq] at hc
        exact (pk_lLT (by omega) (by omega)).mp hc
      rw [q_it_s (y := (lN n, if k = 0 then 0 else lN (2 ^ (k - 1))))]
      · exact ih n f h1 hc2 (by omega) (by omega)
      · show fX7_root_L7 (lN s) (lN n) (lN (2 ^ k)) = _
        unfold fX7_root_L7 fX7_root_b33
        rw [if_neg hpos, if_pos hc]
        unfold q_nm
        rw [hsh _ rfl]
    · have hc2 : (n + 2 ^ k) * (n + 2 ^ k) ≤ s := by
        rw [hsq] at hc
        rcases Nat.lt_or_ge s ((n + 2 ^ k) * (n + 2 ^ k)) with q | q
        · exact absurd ((pk_lLT (by omega) (by omega)).mpr q) hc
        · exact q
      rw [q_it_s (y := (lN (n + 2 ^ k), if k = 0 then 0 else lN (2 ^ (k - 1))))]
      · exact ih (n + 2 ^ k) f hc2 (by rw [show n + 2 ^ k + 2 ^ k = n + 2 ^ (k + 1) by omega]; exact h2) (by omega) (by omega)
      · show fX7_root_L7 (lN s) (lN n) (lN (2 ^ k)) = _
        unfold fX7_root_L7 fX7_root_b33
        rw [if_neg hpos, if_neg hc]
        unfold q_nm
        rw [hsh _ rfl, lN_add]
theorem e_root {s : Nat} (hs : s < 4611686018427387904) : fX7_root (lN s) = some (lN (q_sqrt s)) := by
  unfold fX7_root
  have h0 : q_it (fun x : Int64 × Int64 => fX7_root_L7 (lN s) x.1 x.2) q_FU ((0 : Int64), (2147483648 : Int64)) = some (lN (q_sqrt s)) := by
    have hc : lN s < ((0 : Int64) + (2147483648 : Int64)) * ((0 : Int64) + (2147483648 : Int64)) := by
      rw [show ((0 : Int64) + (2147483648 : Int64)) * ((0 : Int64) + (2147483648 : Int64)) = lN 4611686018427387904 by decide]
      exact (pk_lLT (by omega) (by decide)).mpr hs
    rw [show q_FU = 99999 + 1 from rfl, q_it_s (y := (lN 0, lN (2 ^ 30)))]
    · exact e_root_loop hs 31 0 99999 (by omega) (by rw [show (0 + 2 ^ 31) * (0 + 2 ^ 31) = 4611686018427387904 by decide]; exact hs) (by decide) (by decide)
    · show fX7_root_L7 (lN s) 0 2147483648 = _
      unfold fX7_root_L7 fX7_root_b33
      rw [if_neg (by decide), if_pos hc]
      rfl
  rw [h0]
  rfl
