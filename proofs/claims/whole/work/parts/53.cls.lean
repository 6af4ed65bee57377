/-! THE CLASS: places of a night, as ints -/
theorem tI_div {a b : Int64} (h : b ≠ -1) : (a / b).toInt = a.toInt.tdiv b.toInt := Int64.toInt_div_of_ne_right a b h
theorem nA_div {a b : Int64} (h : b ≠ -1) : nA (a / b) = nA a / nA b := by unfold nA; rw [tI_div h, Int.natAbs_tdiv]; rfl
theorem nA_mul {a b : Int64} (h : nA a * nA b < 9223372036854775808) : nA (a * b) = nA a * nA b := by
  have e : (a.toInt * b.toInt).natAbs = nA a * nA b := Int.natAbs_mul _ _
  unfold nA at *
  rw [tI_mul (by omega) (by omega)]
  exact e
theorem l_32 {q : Int64} (h1 : -2147483648 ≤ q.toInt) (h2 : q.toInt < 2147483648) : q.toInt32.toInt = q.toInt := by rw [Int64.toInt_toInt32, l_bm32 h1 h2]
theorem l_64 (a : Int32) : a.toInt64.toInt = a.toInt := Int32.toInt_toInt64 a
theorem i64_add {a b : Int32} (h1 : -2147483648 ≤ a.toInt + b.toInt) (h2 : a.toInt + b.toInt < 2147483648) : (a + b).toInt64 = a.toInt64 + b.toInt64 := by
  refine l_eq ?_
  have := Int32.le_toInt a
  have := Int32.toInt_lt a
  have := Int32.le_toInt b
  have := Int32.toInt_lt b
  rw [l_64, Int32.toInt_add, l_bm32 h1 h2, tI_add (by rw [l_64, l_64]; omega) (by rw [l_64, l_64]; omega), l_64, l_64]
theorem i64_sub {a b : Int32} (h1 : -2147483648 ≤ a.toInt - b.toInt) (h2 : a.toInt - b.toInt < 2147483648) : (a - b).toInt64 = a.toInt64 - b.toInt64 := by
  refine l_eq ?_
  have := Int32.le_toInt a
  have := Int32.toInt_lt a
  have := Int32.le_toInt b
  have := Int32.toInt_lt b
  rw [l_64, Int32.toInt_sub, l_bm32 h1 h2, tI_sub (by rw [l_64, l_64]; omega) (by rw [l_64, l_64]; omega), l_64, l_64]
theorem i64_div {a b : Int32} (h : b ≠ -1) : (a / b).toInt64 = a.toInt64 / b.toInt64 := by
  refine l_eq ?_
  have hb : b.toInt64 ≠ -1 := by
    intro q
    have e : b.toInt64.toInt = (-1 : Int64).toInt := by rw [q]
    rw [l_64] at e
    exact h (i_eq (by rw [e]; decide))
  rw [l_64, Int32.toInt_div_of_ne_right a b h, tI_div hb, l_64, l_64]
def cpx (E : q_TB) (s : Nat → Int32) (d : Int32) : Int32 := tpx E (s 1) + ((s 2).toInt64 * d.toInt64 / bpr s).toInt32
def cpy (E : q_TB) (s : Nat → Int32) (d : Int32) : Int32 := tpy E (s 1) + ((s 3).toInt64 * d.toInt64 / bpr s).toInt32
theorem bpr_ge {s : Nat → Int32} (h : okS1 s) : bpr s ≠ -1 ∧ nA (s 2).toInt64 ≤ nA (bpr s) ∧ nA (s 3).toInt64 ≤ nA (bpr s) ∧ nA (bpr s) < 2000 := by
  obtain ⟨h1, h2, h3⟩ := bpr_ok h
  unfold bpr
  generalize nA (s 2).toInt64 = a at *
  generalize nA (s 3).toInt64 = b at *
  obtain ⟨g1, g2⟩ := q_sq_ok (a * a + b * b)
  have hb : q_sqrt (a * a + b * b) < 2000 := q_sq_mono (by omega)
  have e : (lN (q_sqrt (a * a + b * b))).toInt = ((q_sqrt (a * a + b * b) : Nat) : Int) := lN_T (by omega)
  have ha : a < q_sqrt (a * a + b * b) + 1 := q_sq_mono (by omega)
  have hbb : b < q_sqrt (a * a + b * b) + 1 := q_sq_mono (by omega)
  have en : nA (lN (q_sqrt (a * a + b * b))) = q_sqrt (a * a + b * b) := by unfold nA; rw [e]; omega
  refine ⟨fun q => ?_, by omega, by omega, by omega⟩
  rw [q] at e
  have : (-1 : Int64).toInt = -1 := by decide
  omega
theorem part_b {s : Nat → Int32} (h : okS1 s) {a : Int64} (ha : nA a ≤ nA (bpr s)) {d : Int32} (hd : 0 ≤ d.toInt ∧ d.toInt ≤ 40000) : -40000 ≤ (a * d.toInt64 / bpr s).toInt ∧ (a * d.toInt64 / bpr s).toInt ≤ 40000 := by
  obtain ⟨g1, g2, g3, g4⟩ := bpr_ge h
  have hD : nA d.toInt64 ≤ 40000 := by rw [nA_i]; omega
  have hm : nA a * nA d.toInt64 ≤ nA (bpr s) * 40000 := Nat.mul_le_mul ha hD
  have h0 : nA (bpr s) ≠ 0 := by
    have := (bpr_ok h).1
    intro q
    apply this
    refine l_eq ?_
    unfold nA at q
    show (bpr s).toInt = 0
    omega
  have : nA (a * d.toInt64 / bpr s) ≤ 40000 := by
    rw [nA_div g1, nA_mul (by omega)]
    refine Nat.div_le_of_le_mul hm
  unfold nA at this
  omega
theorem cpx_ok {E : q_TB} {s : Nat → Int32} (hs : okS1 s) (hE : okTB E) {d : Int32} (hd : 0 ≤ d.toInt ∧ d.toInt ≤ 40000) : (cpx E s d).toInt64 = bpx E s d.toInt64 ∧ -60000 ≤ (cpx E s d).toInt ∧ (cpx E s d).toInt ≤ 60000 := by
  have hp := part_b hs (bpr_ge hs).2.1 hd
  have ht := hE.x (s 1)
  have e := l_32 (q := (s 2).toInt64 * d.toInt64 / bpr s) (by omega) (by omega)
  unfold cpx bpx
  refine ⟨?_, ?_⟩
  · rw [i64_add (by omega) (by omega)]
    congr 1
    exact l_eq (by rw [l_64, e])
  · rw [Int32.toInt_add, l_bm32 (by omega) (by omega)]
    omega
theorem cpy_ok {E : q_TB} {s : Nat → Int32} (hs : okS1 s) (hE : okTB E) {d : Int32} (hd : 0 ≤ d.toInt ∧ d.toInt ≤ 40000) : (cpy E s d).toInt64 = bpy E s d.toInt64 ∧ -60000 ≤ (cpy E s d).toInt ∧ (cpy E s d).toInt ≤ 60000 := by
  have hp := part_b hs (bpr_ge hs).2.2.1 hd
  have ht := hE.y (s 1)
  have e := l_32 (q := (s 3).toInt64 * d.toInt64 / bpr s) (by omega) (by omega)
  unfold cpy bpy
  refine ⟨?_, ?_⟩
  · rw [i64_add (by omega) (by omega)]
    congr 1
    exact l_eq (by rw [l_64, e])
  · rw [Int32.toInt_add, l_bm32 (by omega) (by omega)]
    omega
theorem e_part {Z : q_Z} {M : q_C} {h : Nat} {s : Nat → Int32} (hz : zK Z h = 12) (hs : ∀ k, k < 5 → gI M h k = s k) (ho : okS1 s) (a d : Int32) : fX2_part h a d Z M = some (a.toInt64 * d.toInt64 / bpr s).toInt32 := by
  obtain ⟨g1, g2, g3, g4⟩ := bpr_ge ho
  obtain ⟨h1, h2, h3⟩ := bpr_ok ho
  have e2 := nA_i (s 2)
  have e3 := nA_i (s 3)
  have b2 := ho.2.2.1
  have b3 := ho.2.2.2.1
  unfold fX2_part fX2_part_b32
  rw [q_gdk hz, hs 2 (by decide), hs 3 (by decide), e_length (by omega) (by omega), q_bis]
  have hr : lN (q_sqrt (nA (s 2).toInt64 * nA (s 2).toInt64 + nA (s 3).toInt64 * nA (s 3).toInt64)) = bpr s := rfl
  rw [hr]
  have h1' : (1 : Int64) ≤ bpr s := by
    rw [Int64.le_iff_toInt_le, show (1 : Int64).toInt = 1 from rfl]
    rcases Int.lt_or_le (bpr s).toInt 1 with q | q
    · exfalso
      have hb : q_sqrt (nA (s 2).toInt64 * nA (s 2).toInt64 + nA (s 3).toInt64 * nA (s 3).toInt64) < 2000 := q_sq_mono (by
        have := (q_sq_ok (nA (s 2).toInt64 * nA (s 2).toInt64 + nA (s 3).toInt64 * nA (s 3).toInt64)).1
        omega)
      have e : (bpr s).toInt = _ := lN_T (n := q_sqrt (nA (s 2).toInt64 * nA (s 2).toInt64 + nA (s 3).toInt64 * nA (s 3).toInt64)) (by omega)
      have : (bpr s).toInt = 0 := by omega
      exact h1 (l_eq (by rw [this]; rfl))
    · exact q
  rw [if_pos h1', q_gdc (by simp [h1])]
/-- shapes and references of the class -/
def zB (Z : q_Z) (M : q_C) (z : Nat) : Prop :=
  zK Z z = 16 ∧ (gR M z 0 = some (z + 1) ∧ gR M z 1 = some (z + 8) ∧ gR M z 2 = some (z + 15) ∧ gR M z 9 = some (z + 16) ∧ gR M z 12 = some (z + 17) ∧ gR M z 13 = some (z + 18) ∧ gR M z 14 = some (z + 19)) ∧
  zY Z M (z + 1) ∧ zY Z M (z + 8) ∧ (zK Z (z + 15) = 3 ∧ zL Z (z + 15) = 12) ∧ (zK Z (z + 16) = 4 ∧ zL Z (z + 16) = 100) ∧ (zK Z (z + 17) = 10 ∧ zK Z (z + 18) = 15 ∧ zK Z (z + 19) = 11) ∧
  (gR M (z + 19) 0 = some (z + 20) ∧ gR M (z + 19) 1 = some (z + 21) ∧ gR M (z + 19) 2 = some (z + 22) ∧ zK Z (z + 20) = 1 ∧ zL Z (z + 20) = 100 ∧ zK Z (z + 21) = 2 ∧ zL Z (z + 21) = 100 ∧ zK Z (z + 22) = 2 ∧ zL Z (z + 22) = 100) ∧
  ∀ i, i < 12 → gR M (z + 15) i = some (z + 23 + i) ∧ zK Z (z + 23 + i) = 12
theorem zB.mv {Z : q_Z} {M M' : q_C} {z : Nat} (h : zB Z M z) (e : M'.2.2 = M.2.2) : zB Z M' z := by
  obtain ⟨h1, h2, h3, h4, h5, h6, h7, h8, h9⟩ := h
  have r : ∀ a k, gR M' a k = gR M a k := fun a k => by unfold gR; rw [e]
  refine ⟨h1, ?_, h3.mv e, h4.mv e, h5, h6, h7, ?_, fun i hi => ?_⟩
  · rw [r, r, r, r, r, r, r]; exact h2
  · rw [r, r, r]; exact h8
  · rw [r]; exact h9 i hi
def B_sg (M : q_C) (z n : Nat) (sg : Nat → Nat → Int32) : Prop := n ≤ 12 ∧ gI M z 3 = nI n ∧ ∀ i, i < n → ∀ k, k < 5 → gI M (z + 23 + i) k = sg i k
theorem B_sg.ag {P : Nat → Prop} {M M' : q_C} {z n : Nat} {sg : Nat → Nat → Int32} (h : B_sg M z n sg) (ha : q_ag P M M') (h0 : P z) (hp : ∀ i, i < 12 → P (z + 23 + i)) : B_sg M' z n sg :=
  ⟨h.1, by rw [ha.I h0]; exact h.2.1, fun i hi k hk => by rw [ha.I (hp i (by have := h.1; omega))]; exact h.2.2 i hi k hk⟩
theorem e_sightOf {Z : q_Z} {M : q_C} {z n : Nat} {sg : Nat → Nat → Int32} (hz : zB Z M z) (h : B_sg M z n sg) {i : Nat} (hi : i < n) : fX6_sightOf z (nI i) Z M = some (some (z + 23 + i)) := by
  have hn := h.1
  unfold fX6_sightOf fX6_sightOf_b30 fX6_sightOf_b31
  rw [if_neg (nI_pos (by omega)), q_gdk hz.1, h.2.1, if_neg (nI_ge hi (by omega)), hz.2.1.2.2.1, q_bis, q_gdk hz.2.2.2.2.1.1, hz.2.2.2.2.1.2, if_neg (nI_ge (by omega) (by omega)), q_bis, q_gdc (q_okT hz.2.2.2.2.1.1 rfl (by omega) (by rw [hz.2.2.2.2.1.2]; omega)), nI_clamp (by omega), (hz.2.2.2.2.2.2.2.2 i (by omega)).1]
theorem e_sightOf0 {Z : q_Z} {M : q_C} {z n : Nat} {sg : Nat → Nat → Int32} (hz : zB Z M z) (h : B_sg M z n sg) {v : Int32} (hv : v < 0 ∨ nI n ≤ v) : fX6_sightOf z v Z M = some none := by
  unfold fX6_sightOf fX6_sightOf_b30 fX6_sightOf_b31
  rcases hv with q | q
  · rw [if_pos q]
  · by_cases h0 : v < 0
    · rw [if_pos h0]
    · rw [if_neg h0, q_gdk hz.1, h.2.1, if_pos q]
