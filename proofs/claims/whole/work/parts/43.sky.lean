/-! THE SKY: tables, places, pulls -/
abbrev q_TB : Type := Nat × (Nat → Int32) × (Nat → Int32)
abbrev q_SK : Type := q_TB × q_TB × Int32 × Int32
def fm (t : Int32) (n : Nat) : Nat := (t.toInt % (n : Int)).toNat
def tpx (T : q_TB) (t : Int32) : Int32 := if T.1 = 0 then 0 else T.2.1 (fm t T.1)
def tpy (T : q_TB) (t : Int32) : Int32 := if T.1 = 0 then 0 else T.2.2 (fm t T.1)
theorem fm_lt (t : Int32) {n : Nat} (h : 0 < n) : fm t n < n := by
  unfold fm
  have h1 := Int.emod_nonneg t.toInt (b := (n : Int)) (by omega)
  have h2 := Int.emod_lt_of_pos t.toInt (b := (n : Int)) (by omega)
  omega
theorem i_rem (t : Int32) {n : Nat} (h0 : 0 < n) (hn : n ≤ 40) : (t - t / nI n * nI n).toInt = t.toInt.tmod n := by
  have hN : (nI n).toInt = (n : Int) := nI_toInt (by omega)
  have e0 := Int.mul_tdiv_add_tmod t.toInt n
  have b1 := Int.tmod_lt_of_pos t.toInt (b := (n : Int)) (by omega)
  have b2 := Int.lt_tmod_of_pos t.toInt (b := (n : Int)) (by omega)
  have e1 : t.toInt - t.toInt.tdiv n * n = t.toInt.tmod n := by
    rw [Int.mul_comm] at e0
    omega
  rw [Int32.toInt_sub, Int32.toInt_mul, Int32.toInt_div, hN, Int.sub_bmod_bmod, ← Int.sub_bmod_bmod, Int.bmod_mul_bmod, Int.sub_bmod_bmod, e1]
  exact l_bm32 (by omega) (by omega)
/-- the remainder, as the table wants it -/
theorem i_fm (t : Int32) {n : Nat} (h0 : 0 < n) (hn : n ≤ 40) : ((fm t n : Nat) : Int) = if t.toInt.tmod n < 0 then t.toInt.tmod n + n else t.toInt.tmod n := by
  have e0 := Int.mul_tdiv_add_tmod t.toInt n
  have b1 := Int.tmod_lt_of_pos t.toInt (b := (n : Int)) (by omega)
  have b2 := Int.lt_tmod_of_pos t.toInt (b := (n : Int)) (by omega)
  have c1 : t.toInt % (n : Int) = t.toInt.tmod n % (n : Int) := by
    have : t.toInt % (n : Int) = (t.toInt.tmod n + (n : Int) * t.toInt.tdiv n) % (n : Int) := by
      congr 1
      omega
    rw [this, Int.add_mul_emod_self_left]
  unfold fm
  rw [c1]
  split
  · rename_i h
    rw [show t.toInt.tmod n % (n : Int) = (t.toInt.tmod n + n) % (n : Int) by rw [Int.add_emod_right], Int.emod_eq_of_lt (by omega) (by omega)]
    omega
  · rename_i h
    rw [Int.emod_eq_of_lt (by omega) (by omega)]
    omega
theorem i_sgn (t : Int32) : t.toInt < 0 ↔ t.toBitVec.msb = true := by
  rw [BitVec.msb_eq_toInt, ← Int32.toInt_toBitVec]
  simp
theorem i_xor (t : Int32) {n : Nat} (hn : n ≤ 40) : (0 ≤ t ^^^ nI n) ↔ 0 ≤ t := by
  have h0 : (0 : Int32).toInt = 0 := rfl
  have hN : (nI n).toInt = (n : Int) := nI_toInt (by omega)
  have hm : (nI n).toBitVec.msb = false := by
    cases h : (nI n).toBitVec.msb with
    | false => rfl
    | true => exact absurd ((i_sgn _).mpr h) (by omega)
  have e : (t ^^^ nI n).toInt < 0 ↔ t.toInt < 0 := by
    rw [i_sgn, i_sgn, Int32.toBitVec_xor, BitVec.msb_xor, hm]
    simp
  rw [Int32.le_iff_toInt_le, Int32.le_iff_toInt_le, h0]
  omega
theorem e_floorMod (t : Int32) {n : Nat} (h0 : 0 < n) (hn : n ≤ 40) : fJ9_floorMod_7cf53 t (nI n) = some (nI (fm t n)) := by
  have hz : ¬ nI n = 0 := nI_ne0 h0 (by omega)
  have h00 : (0 : Int32).toInt = 0 := rfl
  have hN : (nI n).toInt = (n : Int) := nI_toInt (by omega)
  have hr := i_rem t h0 hn
  have hf := i_fm t h0 hn
  have hl := fm_lt t h0
  have hF : (nI (fm t n)).toInt = ((fm t n : Nat) : Int) := nI_toInt (by omega)
  have b1 := Int.tmod_lt_of_pos t.toInt (b := (n : Int)) (by omega)
  have b2 := Int.lt_tmod_of_pos t.toInt (b := (n : Int)) (by omega)
  unfold fJ9_floorMod_7cf53 fJ9_floorMod_7cf53_b18
  rw [q_gdc (by simp [hz])]
  simp only [q_nm]
  generalize hv : t - t / nI n * nI n = v at hr ⊢
  by_cases hc : 0 ≤ t ^^^ nI n
  · rw [if_pos hc]
    have ht := (i_xor t hn).mp hc
    rw [Int32.le_iff_toInt_le, h00] at ht
    have := Int.tmod_nonneg (n : Int) ht
    rw [if_neg (by omega)] at hf
    exact congrArg some (i_eq (by rw [hr, hF, hf]))
  · rw [if_neg hc]
    have ht : ¬ 0 ≤ t := fun q => hc ((i_xor t hn).mpr q)
    rw [Int32.le_iff_toInt_le, h00] at ht
    by_cases hv0 : v = 0
    · rw [if_pos hv0]
      rw [hv0, h00] at hr
      rw [if_neg (by omega)] at hf
      exact congrArg some (i_eq (by rw [hv0, h00, hF, hf, ← hr]))
    · rw [if_neg hv0]
      have hv1 : v.toInt ≠ 0 := fun q => hv0 (i_eq (by rw [q, h00]))
      have hneg : t.toInt.tmod n ≤ 0 := by
        have := Int.tmod_nonneg (a := -t.toInt) (n : Int) (by omega)
        rw [Int.neg_tmod] at this
        omega
      rw [if_pos (by omega)] at hf
      refine congrArg some (i_eq ?_)
      rw [Int32.toInt_add, hr, hN, hF, hf]
      exact l_bm32 (by omega) (by omega)
/-- shapes and references of a table, of a sky -/
def zT (Z : q_Z) (M : q_C) (t : Nat) : Prop := zK Z t = 14 ∧ gR M t 0 = some (t + 1) ∧ gR M t 1 = some (t + 2) ∧ zK Z (t + 1) = 1 ∧ zL Z (t + 1) = 40 ∧ zK Z (t + 2) = 1 ∧ zL Z (t + 2) = 40
def zY (Z : q_Z) (M : q_C) (o : Nat) : Prop := zK Z o = 13 ∧ gR M o 0 = some (o + 1) ∧ gR M o 1 = some (o + 4) ∧ zT Z M (o + 1) ∧ zT Z M (o + 4)
def B_tb (M : q_C) (t : Nat) (T : q_TB) : Prop := T.1 ≤ 40 ∧ gI M t 2 = nI T.1 ∧ ∀ i, i < T.1 → gI M (t + 1) i = T.2.1 i ∧ gI M (t + 2) i = T.2.2 i
def B_sk (M : q_C) (o : Nat) (S : q_SK) : Prop := B_tb M (o + 1) S.1 ∧ B_tb M (o + 4) S.2.1 ∧ gJ M o 2 = S.2.2.1.toInt64 ∧ gJ M o 3 = S.2.2.2.toInt64
theorem e_xAt {Z : q_Z} {M : q_C} {h : Nat} {T : q_TB} (hz : zT Z M h) (hT : B_tb M h T) (t : Int32) : fX4_xAt h t Z M = some (tpx T t) := by
  obtain ⟨z1, z2, z3, z4, z5, z6, z7⟩ := hz
  obtain ⟨b1, b2, b3⟩ := hT
  unfold fX4_xAt fX4_xAt_b17 fX4_xAt_b34 tpx
  rw [q_gdk z1, b2]
  by_cases h0 : T.1 = 0
  · rw [if_pos h0, h0, if_pos (by decide)]
  · rw [if_neg h0, if_neg (show ¬ nI T.1 < (1 : Int32) from Int32.not_lt.mpr (nI_le (a := 1) (by omega) (by omega))), if_pos (show nI T.1 ≤ (40 : Int32) from nI_le (b := 40) b1 (by omega)), z2, q_bis, e_floorMod t (by omega) b1, q_bis]
    have hl := fm_lt t (n := T.1) (by omega)
    rw [q_gdc (q_okT z4 rfl (by omega) (by omega)), nI_clamp (by omega), (b3 _ hl).1]
theorem e_yAt {Z : q_Z} {M : q_C} {h : Nat} {T : q_TB} (hz : zT Z M h) (hT : B_tb M h T) (t : Int32) : fX4_yAt h t Z M = some (tpy T t) := by
  obtain ⟨z1, z2, z3, z4, z5, z6, z7⟩ := hz
  obtain ⟨b1, b2, b3⟩ := hT
  unfold fX4_yAt fX4_yAt_b17 fX4_yAt_b34 tpy
  rw [q_gdk z1, b2]
  by_cases h0 : T.1 = 0
  · rw [if_pos h0, h0, if_pos (by decide)]
  · rw [if_neg h0, if_neg (show ¬ nI T.1 < (1 : Int32) from Int32.not_lt.mpr (nI_le (a := 1) (by omega) (by omega))), if_pos (show nI T.1 ≤ (40 : Int32) from nI_le (b := 40) b1 (by omega)), z3, q_bis, e_floorMod t (by omega) b1, q_bis]
    have hl := fm_lt t (n := T.1) (by omega)
    rw [q_gdc (q_okT z6 rfl (by omega) (by omega)), nI_clamp (by omega), (b3 _ hl).2]
