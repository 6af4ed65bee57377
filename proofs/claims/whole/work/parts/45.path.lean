/-! the path: all steps of a comet that begins at step t0 with state c0 -/
def sp (t : Int) : Int32 := Int32.ofInt t
theorem sp_1 (t : Int) : sp t + 1 = sp (t + 1) := by unfold sp; rw [Int32.ofInt_add]; rfl
theorem sp_m (t : Int) : sp t - 1 = sp (t - 1) := by unfold sp; rw [Int32.ofInt_sub]; rfl
theorem sp_n (t : Int) : sp t + (-1) = sp (t - 1) := by rw [← sp_m, Int32.sub_eq_add_neg]
theorem sp_T {t : Int} (h1 : -2147483648 ≤ t) (h2 : t < 2147483648) : (sp t).toInt = t := by
  unfold sp
  rw [Int32.toInt_ofInt, l_bm32 h1 h2]
theorem sp_of (x : Int32) : x = sp x.toInt := by unfold sp; rw [Int32.ofInt_toInt]
theorem sp_le {a b : Int} (h1 : -2147483648 ≤ a) (h2 : a < 2147483648) (h3 : -2147483648 ≤ b) (h4 : b < 2147483648) : sp a ≤ sp b ↔ a ≤ b := by
  rw [Int32.le_iff_toInt_le, sp_T h1 h2, sp_T h3 h4]
/-- a step on: to step t -/
def fw (S : q_SK) (t : Int32) (c : q_cs) : q_cs := (c.1 + c.2.2.1, c.2.1 + c.2.2.2, c.2.2.1 + acx S t (c.1 + c.2.2.1) (c.2.1 + c.2.2.2), c.2.2.2 + acy S t (c.1 + c.2.2.1) (c.2.1 + c.2.2.2))
/-- a step back: from step t -/
def bw (S : q_SK) (t : Int32) (c : q_cs) : q_cs := (c.1 - (c.2.2.1 - acx S t c.1 c.2.1), c.2.1 - (c.2.2.2 - acy S t c.1 c.2.1), c.2.2.1 - acx S t c.1 c.2.1, c.2.2.2 - acy S t c.1 c.2.1)
theorem l_ac (a b : Int64) : a + b - b = a := Int64.add_sub_cancel a b
theorem l_sc (a b : Int64) : a - b + b = a := Int64.sub_add_cancel a b
theorem bw_fw (S : q_SK) (t : Int32) (c : q_cs) : bw S t (fw S t c) = c := by
  unfold bw fw
  dsimp only
  rw [l_ac, l_ac, l_ac, l_ac]
theorem fw_bw (S : q_SK) (t : Int32) (c : q_cs) : fw S t (bw S t c) = c := by
  unfold bw fw
  dsimp only
  rw [l_sc, l_sc, l_sc, l_sc]
def fT (S : q_SK) (t0 : Int) (c0 : q_cs) : Nat → Option q_cs
  | 0 => if lost c0.1 c0.2.1 then none else some c0
  | n + 1 => (fT S t0 c0 n).bind fun c => if lost (c.1 + c.2.2.1) (c.2.1 + c.2.2.2) then none else some (fw S (sp (t0 + n + 1)) c)
def bT (S : q_SK) (t0 : Int) (c0 : q_cs) : Nat → Option q_cs
  | 0 => if lost c0.1 c0.2.1 then none else some c0
  | n + 1 => (bT S t0 c0 n).bind fun c => if lost (bw S (sp (t0 - n)) c).1 (bw S (sp (t0 - n)) c).2.1 then none else some (bw S (sp (t0 - n)) c)
def TT (S : q_SK) (t0 : Int) (c0 : q_cs) (t : Int) : Option q_cs := if t0 ≤ t then fT S t0 c0 (t - t0).toNat else bT S t0 c0 (t0 - t).toNat
theorem fT_nl {S : q_SK} {t0 : Int} {c0 c : q_cs} {n : Nat} (h : fT S t0 c0 n = some c) : ¬ lost c.1 c.2.1 := by
  cases n with
  | zero =>
    unfold fT at h
    by_cases q : lost c0.1 c0.2.1
    · rw [if_pos q] at h; cases h
    · rw [if_neg q] at h; cases h; exact q
  | succ n =>
    unfold fT at h
    obtain ⟨d, h1, h2⟩ := q_biE h
    by_cases q : lost (d.1 + d.2.2.1) (d.2.1 + d.2.2.2)
    · rw [if_pos q] at h2; cases h2
    · rw [if_neg q] at h2; cases h2; exact q
theorem bT_nl {S : q_SK} {t0 : Int} {c0 c : q_cs} {n : Nat} (h : bT S t0 c0 n = some c) : ¬ lost c.1 c.2.1 := by
  cases n with
  | zero =>
    unfold bT at h
    by_cases q : lost c0.1 c0.2.1
    · rw [if_pos q] at h; cases h
    · rw [if_neg q] at h; cases h; exact q
  | succ n =>
    unfold bT at h
    obtain ⟨d, h1, h2⟩ := q_biE h
    by_cases q : lost (bw S (sp (t0 - n)) d).1 (bw S (sp (t0 - n)) d).2.1
    · rw [if_pos q] at h2; cases h2
    · rw [if_neg q] at h2; cases h2; exact q
theorem TT_nl {S : q_SK} {t0 : Int} {c0 c : q_cs} {t : Int} (h : TT S t0 c0 t = some c) : ¬ lost c.1 c.2.1 := by
  unfold TT at h
  split at h
  · exact fT_nl h
  · exact bT_nl h
theorem TT_0 (S : q_SK) (t0 : Int) (c0 : q_cs) : TT S t0 c0 t0 = if lost c0.1 c0.2.1 then none else some c0 := by
  unfold TT
  rw [if_pos (Int.le_refl t0), Int.sub_self]
  rfl
theorem TT_b0 (S : q_SK) (t0 : Int) (c0 : q_cs) (n : Nat) : TT S t0 c0 (t0 - n) = bT S t0 c0 n := by
  unfold TT
  by_cases h : n = 0
  · subst h
    rw [if_pos (by omega), show (t0 - ((0 : Nat) : Int) - t0).toNat = 0 by omega]
    rfl
  · rw [if_neg (by omega), show (t0 - (t0 - (n : Int))).toNat = n by omega]
theorem TT_f0 (S : q_SK) (t0 : Int) (c0 : q_cs) (n : Nat) : TT S t0 c0 (t0 + n) = fT S t0 c0 n := by
  unfold TT
  rw [if_pos (by omega), show (t0 + (n : Int) - t0).toNat = n by omega]
/-- a step on, from anywhere on the path -/
theorem TT_F {S : q_SK} {t0 : Int} {c0 c : q_cs} {t : Int} (h : TT S t0 c0 t = some c) : TT S t0 c0 (t + 1) = if lost (c.1 + c.2.2.1) (c.2.1 + c.2.2.2) then none else some (fw S (sp (t + 1)) c) := by
  by_cases ht : t0 ≤ t
  · obtain ⟨n, rfl⟩ : ∃ n : Nat, t = t0 + n := ⟨(t - t0).toNat, by omega⟩
    rw [TT_f0] at h
    rw [show t0 + (n : Int) + 1 = t0 + ((n + 1 : Nat) : Int) by omega, TT_f0]
    show (fT S t0 c0 n).bind _ = _
    rw [h, q_bis]
    rw [show t0 + ((n + 1 : Nat) : Int) = t0 + (n : Int) + 1 by omega]
  · obtain ⟨n, rfl⟩ : ∃ n : Nat, t = t0 - ((n + 1 : Nat) : Int) := ⟨(t0 - t).toNat - 1, by omega⟩
    rw [TT_b0] at h
    rw [show t0 - ((n + 1 : Nat) : Int) + 1 = t0 - (n : Int) by omega, TT_b0]
    obtain ⟨d, h1, h2⟩ := q_biE (show (bT S t0 c0 n).bind _ = some c from h)
    have hd := bT_nl h1
    by_cases q : lost (bw S (sp (t0 - n)) d).1 (bw S (sp (t0 - n)) d).2.1
    · rw [if_pos q] at h2; cases h2
    · rw [if_neg q] at h2
      cases h2
      have e := fw_bw S (sp (t0 - n)) d
      have e1 : (fw S (sp (t0 - n)) (bw S (sp (t0 - n)) d)).1 = d.1 := by rw [e]
      have e2 : (fw S (sp (t0 - n)) (bw S (sp (t0 - n)) d)).2.1 = d.2.1 := by rw [e]
      have hnl : ¬ lost ((bw S (sp (t0 - n)) d).1 + (bw S (sp (t0 - n)) d).2.2.1) ((bw S (sp (t0 - n)) d).2.1 + (bw S (sp (t0 - n)) d).2.2.2) := by
        have a1 : (bw S (sp (t0 - n)) d).1 + (bw S (sp (t0 - n)) d).2.2.1 = d.1 := e1
        have a2 : (bw S (sp (t0 - n)) d).2.1 + (bw S (sp (t0 - n)) d).2.2.2 = d.2.1 := e2
        rw [a1, a2]; exact hd
      rw [if_neg hnl, e, h1]
/-- a step back, from anywhere on the path -/
theorem TT_B {S : q_SK} {t0 : Int} {c0 c : q_cs} {t : Int} (h : TT S t0 c0 t = some c) : TT S t0 c0 (t - 1) = if lost (bw S (sp t) c).1 (bw S (sp t) c).2.1 then none else some (bw S (sp t) c) := by
  by_cases ht : t ≤ t0
  · obtain ⟨n, rfl⟩ : ∃ n : Nat, t = t0 - n := ⟨(t0 - t).toNat, by omega⟩
    rw [TT_b0] at h
    rw [show t0 - (n : Int) - 1 = t0 - ((n + 1 : Nat) : Int) by omega, TT_b0]
    show (bT S t0 c0 n).bind _ = _
    rw [h, q_bis]
  · obtain ⟨n, rfl⟩ : ∃ n : Nat, t = t0 + ((n + 1 : Nat) : Int) := ⟨(t - t0).toNat - 1, by omega⟩
    rw [TT_f0] at h
    rw [show t0 + ((n + 1 : Nat) : Int) - 1 = t0 + (n : Int) by omega, TT_f0]
    obtain ⟨d, h1, h2⟩ := q_biE (show (fT S t0 c0 n).bind _ = some c from h)
    have hd := fT_nl h1
    by_cases q : lost (d.1 + d.2.2.1) (d.2.1 + d.2.2.2)
    · rw [if_pos q] at h2; cases h2
    · rw [if_neg q] at h2
      cases h2
      rw [show t0 + ((n + 1 : Nat) : Int) = t0 + (n : Int) + 1 by omega, bw_fw, if_neg hd, h1]
/-- lost is lost, farther on that way -/
theorem TT_nF {S : q_SK} {t0 : Int} {c0 : q_cs} {t : Int} (ht : t0 ≤ t) (h : TT S t0 c0 t = none) (k : Nat) : TT S t0 c0 (t + k) = none := by
  obtain ⟨n, rfl⟩ : ∃ n : Nat, t = t0 + n := ⟨(t - t0).toNat, by omega⟩
  induction k with
  | zero => rw [show t0 + (n : Int) + ((0 : Nat) : Int) = t0 + n by omega]; exact h
  | succ k ih =>
    rw [show t0 + (n : Int) + (k : Nat) = t0 + ((n + k : Nat) : Int) by omega, TT_f0] at ih
    rw [show t0 + (n : Int) + ((k + 1 : Nat) : Int) = t0 + ((n + k + 1 : Nat) : Int) by omega, TT_f0]
    show (fT S t0 c0 (n + k)).bind _ = none
    rw [ih]; rfl
theorem TT_nB {S : q_SK} {t0 : Int} {c0 : q_cs} {t : Int} (ht : t ≤ t0) (h : TT S t0 c0 t = none) (k : Nat) : TT S t0 c0 (t - k) = none := by
  obtain ⟨n, rfl⟩ : ∃ n : Nat, t = t0 - n := ⟨(t0 - t).toNat, by omega⟩
  induction k with
  | zero => rw [show t0 - (n : Int) - ((0 : Nat) : Int) = t0 - n by omega]; exact h
  | succ k ih =>
    rw [show t0 - (n : Int) - (k : Nat) = t0 - ((n + k : Nat) : Int) by omega, TT_b0] at ih
    rw [show t0 - (n : Int) - ((k + 1 : Nat) : Int) = t0 - ((n + k + 1 : Nat) : Int) by omega, TT_b0]
    show (bT S t0 c0 (n + k)).bind _ = none
    rw [ih]; rfl
