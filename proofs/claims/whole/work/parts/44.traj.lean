/-! THE WAY OF A COMET -/
abbrev q_cs : Type := Int64 × Int64 × Int64 × Int64
abbrev lost (x y : Int64) : Prop := x * x + y * y < 10000 ∨ x < -100000 ∨ 100000 < x ∨ y < -100000 ∨ 100000 < y
theorem e_isLost (x y : Int64) : fX7_isLost x y = some (bi (lost x y)) := by
  unfold fX7_isLost fX7_isLost_b46 fX7_isLost_b51
  by_cases h1 : x * x + y * y < 10000
  · rw [if_pos h1, bi_t (Or.inl h1)]; rfl
  rw [if_neg h1]
  by_cases h2 : x < -100000
  · rw [if_pos h2, bi_t (Or.inr (Or.inl h2))]; rfl
  rw [if_neg h2]
  by_cases h3 : 100000 < x
  · rw [if_pos h3, bi_t (Or.inr (Or.inr (Or.inl h3)))]; rfl
  rw [if_neg h3]
  by_cases h4 : y < -100000
  · rw [if_pos h4, bi_t (Or.inr (Or.inr (Or.inr (Or.inl h4))))]; rfl
  rw [if_neg h4]
  by_cases h5 : y ≤ 100000
  · rw [if_pos h5, bi_f (fun q => ?_)]
    · rfl
    · rcases q with q | q | q | q | q
      · exact h1 q
      · exact h2 q
      · exact h3 q
      · exact h4 q
      · exact Int64.not_lt.mpr h5 q
  · rw [if_neg h5, bi_t (Or.inr (Or.inr (Or.inr (Or.inr (Int64.not_le.mp h5)))))]; rfl
theorem e_isOutside {Z : q_Z} {h : Nat} (hz : zK Z h = 10) (M : q_C) : fX0_isOutside h Z M = some (bi (lost (gJ M h 0) (gJ M h 1))) := by
  unfold fX0_isOutside fX0_isOutside_b70 fX0_isOutside_b75
  rw [q_gdk hz]
  generalize gJ M h 0 = x
  generalize gJ M h 1 = y
  by_cases h2 : x < -100000
  · rw [if_pos h2, bi_t (Or.inr (Or.inl h2))]; rfl
  rw [if_neg h2]
  by_cases h3 : 100000 < x
  · rw [if_pos h3, bi_t (Or.inr (Or.inr (Or.inl h3)))]; rfl
  rw [if_neg h3]
  by_cases h4 : y < -100000
  · rw [if_pos h4, bi_t (Or.inr (Or.inr (Or.inr (Or.inl h4))))]; rfl
  rw [if_neg h4]
  by_cases h5 : 100000 < y
  · rw [if_pos h5, bi_t (Or.inr (Or.inr (Or.inr (Or.inr h5))))]; rfl
  rw [if_neg h5]
  by_cases h1 : 10000 ≤ x * x + y * y
  · rw [if_pos h1, bi_f (fun q => ?_)]
    · rfl
    · rcases q with q | q | q | q | q
      · exact Int64.not_lt.mpr h1 q
      · exact h2 q
      · exact h3 q
      · exact h4 q
      · exact h5 q
  · rw [if_neg h1, bi_t (Or.inl (Int64.not_le.mp h1))]; rfl
/-- a pull -/
def pl (m p q : Int64) : Int64 := if p * p + q * q = 0 then 0 else m * p / ((p * p + q * q) * lN (q_sqrt (nA p * nA p + nA q * nA q)))
theorem pl_den {p q : Int64} (hp : nA p < 1048576) (hq : nA q < 1048576) (h0 : ¬ p * p + q * q = 0) : ¬ (p * p + q * q) * lN (q_sqrt (nA p * nA p + nA q * nA q)) = 0 := by
  have hpp : nA p * nA p ≤ 1048576 * 1048576 := Nat.mul_le_mul (by omega) (by omega)
  have hqq : nA q * nA q ≤ 1048576 * 1048576 := Nat.mul_le_mul (by omega) (by omega)
  have hs : p * p + q * q = lN (nA p * nA p + nA q * nA q) := by rw [l_sq (by omega), l_sq (by omega), lN_add]
  rw [hs] at h0 ⊢
  have hsb : nA p * nA p + nA q * nA q ≤ 2199023255552 := by omega
  clear hs hpp hqq
  generalize nA p * nA p + nA q * nA q = s at *
  have hs0 : s ≠ 0 := fun q => h0 (by rw [q]; rfl)
  obtain ⟨g1, g2⟩ := q_sq_ok s
  have k0 : q_sqrt s ≠ 0 := fun q => by rw [q] at g2; omega
  have k1 : q_sqrt s < 2097152 := q_sq_mono (by omega)
  have hm : s * q_sqrt s ≤ 2199023255552 * 2097152 := Nat.mul_le_mul (by omega) (by omega)
  rw [lN_mul]
  intro q
  have := (pk_lEQ (a := s * q_sqrt s) (b := 0) (by omega) (by decide)).mp q
  rcases Nat.mul_eq_zero.mp this with h | h
  · exact hs0 h
  · exact k0 h
theorem pl_sym (p q : Int64) : (q * q + p * p) * lN (q_sqrt (nA q * nA q + nA p * nA p)) = (p * p + q * q) * lN (q_sqrt (nA p * nA p + nA q * nA q)) := by
  rw [Int64.add_comm (q * q), Nat.add_comm (nA q * nA q)]
theorem e_pull7 {m p q : Int64} (hp : nA p < 1048576) (hq : nA q < 1048576) : fX7_pull m p q = some (pl m p q) := by
  have hpp : nA p * nA p ≤ 1048576 * 1048576 := Nat.mul_le_mul (by omega) (by omega)
  have hqq : nA q * nA q ≤ 1048576 * 1048576 := Nat.mul_le_mul (by omega) (by omega)
  have hs : p * p + q * q = lN (nA p * nA p + nA q * nA q) := by rw [l_sq (by omega), l_sq (by omega), lN_add]
  unfold fX7_pull fX7_pull_b34 pl
  simp only [q_nm]
  by_cases h0 : p * p + q * q = 0
  · rw [if_pos h0, if_pos h0]
  · rw [if_neg h0, if_neg h0]
    have hd := pl_den hp hq h0
    have hr : fX7_root (p * p + q * q) = some (lN (q_sqrt (nA p * nA p + nA q * nA q))) := by rw [hs, e_root (by omega)]
    rw [hr, q_bis, q_gdc (by simp [hd])]
theorem l_zmul (d : Int64) : d * 0 = 0 := Int64.mul_zero
theorem pl_zero (p q : Int64) : pl 0 p q = 0 := by
  unfold pl
  split
  · rfl
  · rw [Int64.zero_mul, Int64.zero_div]
/-- the state of a comet's cell -/
def cst (M : q_C) (h : Nat) (c : q_cs) (t lo : Int32) : Prop := gJ M h 0 = c.1 ∧ gJ M h 1 = c.2.1 ∧ gJ M h 2 = c.2.2.1 ∧ gJ M h 3 = c.2.2.2 ∧ gI M h 4 = t ∧ gI M h 5 = lo
/-- only the cell h has changed, and no reference -/
def cmv (h : Nat) (M M' : q_C) : Prop := q_ag (fun a => a ≠ h) M M' ∧ M'.2.2 = M.2.2
theorem cmv.rf {h : Nat} {M : q_C} : cmv h M M := ⟨q_ag.rf, rfl⟩
theorem cmv.tr {h : Nat} {M M1 M2 : q_C} (a : cmv h M M1) (b : cmv h M1 M2) : cmv h M M2 := ⟨a.1.tr b.1, b.2.trans a.2⟩
theorem cmv.sI {h : Nat} {M M1 : q_C} (a : cmv h M M1) (k : Nat) (v : Int32) : cmv h M (sI M1 h k v) := ⟨a.1.sI (fun q => q rfl) k v, a.2⟩
theorem cmv.sJ {h : Nat} {M M1 : q_C} (a : cmv h M M1) (k : Nat) (v : Int64) : cmv h M (sJ M1 h k v) := ⟨a.1.sJ (fun q => q rfl) k v, a.2⟩
theorem e_pull0 {Z : q_Z} {M : q_C} {h : Nat} {m p q : Int64} (sg : Int32) {x y u v : Int64} {t lo : Int32} (hz : zK Z h = 10) (hp : nA p < 1048576) (hq : nA q < 1048576) (hc : cst M h (x, y, u, v) t lo) :
    ∃ M', fX0_pull h m p q sg Z M = some M' ∧ cst M' h (x, y, u + sg.toInt64 * pl m p q, v + sg.toInt64 * pl m q p) t lo ∧ cmv h M M' := by
  obtain ⟨c0, c1, c2, c3, c4, c5⟩ := hc
  unfold fX0_pull fX0_pull_b64
  rw [e_length (by omega) (by omega), q_bis]
  simp only [q_nm]
  by_cases h0 : p * p + q * q = 0
  · have h0' : q * q + p * p = 0 := by rw [Int64.add_comm]; exact h0
    have e1 : pl m p q = 0 := by unfold pl; rw [if_pos h0]
    have e2 : pl m q p = 0 := by unfold pl; rw [if_pos h0']
    rw [if_pos (by rw [h0, Int64.zero_mul])]
    exact ⟨M, rfl, ⟨c0, c1, by rw [e1, l_zmul, Int64.add_zero]; exact c2, by rw [e2, l_zmul, Int64.add_zero]; exact c3, c4, c5⟩, cmv.rf⟩
  · have hd := pl_den hp hq h0
    have h0' : ¬ q * q + p * p = 0 := by rw [Int64.add_comm]; exact h0
    have e1 : pl m p q = m * p / ((p * p + q * q) * lN (q_sqrt (nA p * nA p + nA q * nA q))) := by unfold pl; rw [if_neg h0]
    have e2 : pl m q p = m * q / ((p * p + q * q) * lN (q_sqrt (nA p * nA p + nA q * nA q))) := by unfold pl; rw [if_neg h0', pl_sym]
    rw [if_neg hd, q_gdk hz, q_gdc (by simp [hd]), q_gdc (by simp [hd])]
    refine ⟨_, rfl, ⟨?_, ?_, ?_, ?_, c4, c5⟩, (cmv.rf.sJ _ _).sJ _ _⟩
    · rw [gJ_k _ _ _ _ (by decide), gJ_k _ _ _ _ (by decide)]; exact c0
    · rw [gJ_k _ _ _ _ (by decide), gJ_k _ _ _ _ (by decide)]; exact c1
    · rw [gJ_k _ _ _ _ (by decide), gJ_same, c2, e1]
    · rw [gJ_same, gJ_k _ _ _ _ (by decide), c3, e2]
def acx (S : q_SK) (t : Int32) (x y : Int64) : Int64 := pl S.2.2.1.toInt64 (-x) (-y) + pl S.2.2.2.toInt64 ((tpx S.2.1 t).toInt64 - x) ((tpy S.2.1 t).toInt64 - y)
def acy (S : q_SK) (t : Int32) (x y : Int64) : Int64 := pl S.2.2.1.toInt64 (-y) (-x) + pl S.2.2.2.toInt64 ((tpy S.2.1 t).toInt64 - y) ((tpx S.2.1 t).toInt64 - x)
def okTB (T : q_TB) : Prop := T.1 ≤ 40 ∧ ∀ i, i < T.1 → -20000 ≤ (T.2.1 i).toInt ∧ (T.2.1 i).toInt ≤ 20000 ∧ -20000 ≤ (T.2.2 i).toInt ∧ (T.2.2 i).toInt ≤ 20000
def okSK (S : q_SK) : Prop := okTB S.1 ∧ okTB S.2.1
theorem okTB.x {T : q_TB} (h : okTB T) (t : Int32) : -20000 ≤ (tpx T t).toInt ∧ (tpx T t).toInt ≤ 20000 := by
  unfold tpx
  by_cases h0 : T.1 = 0
  · rw [if_pos h0]; decide
  · rw [if_neg h0]
    have := h.2 (fm t T.1) (fm_lt t (by omega))
    exact ⟨this.1, this.2.1⟩
theorem okTB.y {T : q_TB} (h : okTB T) (t : Int32) : -20000 ≤ (tpy T t).toInt ∧ (tpy T t).toInt ≤ 20000 := by
  unfold tpy
  by_cases h0 : T.1 = 0
  · rw [if_pos h0]; decide
  · rw [if_neg h0]
    have := h.2 (fm t T.1) (fm_lt t (by omega))
    exact ⟨this.2.2.1, this.2.2.2⟩
theorem l_in {x : Int64} (h1 : ¬ x < -100000) (h2 : ¬ 100000 < x) : -100000 ≤ x.toInt ∧ x.toInt ≤ 100000 := by
  rw [Int64.lt_iff_toInt_lt] at h1 h2
  have e1 : (-100000 : Int64).toInt = -100000 := by decide
  have e2 : (100000 : Int64).toInt = 100000 := by decide
  omega
theorem lost_b {x y : Int64} (h : ¬ lost x y) : (-100000 ≤ x.toInt ∧ x.toInt ≤ 100000) ∧ (-100000 ≤ y.toInt ∧ y.toInt ≤ 100000) :=
  ⟨l_in (fun q => h (Or.inr (Or.inl q))) (fun q => h (Or.inr (Or.inr (Or.inl q)))), l_in (fun q => h (Or.inr (Or.inr (Or.inr (Or.inl q))))) (fun q => h (Or.inr (Or.inr (Or.inr (Or.inr q)))))⟩
theorem nA_neg {x : Int64} (h : -100000 ≤ x.toInt ∧ x.toInt ≤ 100000) : nA (-x) < 1048576 := by
  unfold nA
  rw [tI_neg (by omega)]
  omega
theorem nA_dif {a : Int32} {x : Int64} (ha : -20000 ≤ a.toInt ∧ a.toInt ≤ 20000) (h : -100000 ≤ x.toInt ∧ x.toInt ≤ 100000) : nA (a.toInt64 - x) < 1048576 := by
  unfold nA
  have e : a.toInt64.toInt = a.toInt := Int32.toInt_toInt64 a
  rw [tI_sub (by omega) (by omega)]
  omega
theorem B_tb.ag {P : Nat → Prop} {M M' : q_C} {t : Nat} {T : q_TB} (h : B_tb M t T) (ha : q_ag P M M') (h0 : P t) (h1 : P (t + 1)) (h2 : P (t + 2)) : B_tb M' t T :=
  ⟨h.1, by rw [ha.I h0]; exact h.2.1, fun i hi => ⟨by rw [ha.I h1]; exact (h.2.2 i hi).1, by rw [ha.I h2]; exact (h.2.2 i hi).2⟩⟩
theorem B_sk.ag {P : Nat → Prop} {M M' : q_C} {o : Nat} {S : q_SK} (h : B_sk M o S) (ha : q_ag P M M') (hp : ∀ i, i < 7 → P (o + i)) : B_sk M' o S :=
  ⟨h.1.ag ha (hp 1 (by decide)) (hp 2 (by decide)) (hp 3 (by decide)), h.2.1.ag ha (hp 4 (by decide)) (hp 5 (by decide)) (hp 6 (by decide)), (ha.J (hp 0 (by decide)) 2).trans h.2.2.1, (ha.J (hp 0 (by decide)) 3).trans h.2.2.2⟩
theorem zT.mv {Z : q_Z} {M M' : q_C} {t : Nat} (h : zT Z M t) (e : M'.2.2 = M.2.2) : zT Z M' t := by
  unfold zT gR at h ⊢
  rw [e]
  exact h
theorem zY.mv {Z : q_Z} {M M' : q_C} {o : Nat} (h : zY Z M o) (e : M'.2.2 = M.2.2) : zY Z M' o :=
  ⟨h.1, by unfold gR; rw [e]; exact h.2.1, by unfold gR; rw [e]; exact h.2.2.1, h.2.2.2.1.mv e, h.2.2.2.2.mv e⟩
theorem e_pullAll {Z : q_Z} {M : q_C} {h o : Nat} {S : q_SK} (sg : Int32) {x y u v : Int64} {t lo : Int32} (hz : zK Z h = 10) (hY : zY Z M o) (hS : B_sk M o S) (hk : okSK S) (hc : cst M h (x, y, u, v) t lo) (hl : ¬ lost x y) (ho : ∀ i, i < 7 → o + i ≠ h) :
    ∃ M', fX0_pullAll h (some o) sg Z M = some M' ∧ cst M' h (x, y, u + sg.toInt64 * acx S t x y, v + sg.toInt64 * acy S t x y) t lo ∧ cmv h M M' := by
  obtain ⟨bx, by_⟩ := lost_b hl
  have tx := hk.2.x t
  have ty := hk.2.y t
  obtain ⟨M1, e1, c1, m1⟩ := e_pull0 (m := S.2.2.1.toInt64) (p := -x) (q := -y) sg hz (nA_neg bx) (nA_neg by_) hc
  have hS1 := hS.ag m1.1 ho
  have hY1 := hY.mv m1.2
  unfold fX0_pullAll fX0_pullAll_b71
  rw [q_bis, q_gdk hY.1, q_gdk hz, hS.2.2.1, hc.1, hc.2.1, e1, q_bis, hS1.2.2.2]
  by_cases h0 : S.2.2.2.toInt64 = 0
  · rw [if_pos h0]
    refine ⟨M1, rfl, ?_, m1⟩
    unfold acx acy
    rw [h0, pl_zero, pl_zero, Int64.add_zero, Int64.add_zero]
    exact c1
  · rw [if_neg h0, hY1.2.2.1, q_bis, q_gdk hY1.2.2.2.2.1, c1.2.2.2.2.1, e_xAt hY1.2.2.2.2 hS1.2.1, q_bis, q_bis, q_gdk hY1.2.2.2.2.1, e_yAt hY1.2.2.2.2 hS1.2.1, q_bis, c1.1, c1.2.1]
    obtain ⟨M2, e2, c2, m2⟩ := e_pull0 (m := S.2.2.2.toInt64) (p := (tpx S.2.1 t).toInt64 - x) (q := (tpy S.2.1 t).toInt64 - y) sg hz (nA_dif tx bx) (nA_dif ty by_) c1
    rw [e2]
    refine ⟨M2, rfl, ?_, m1.tr m2⟩
    unfold acx acy
    rw [Int64.mul_add, Int64.mul_add, ← Int64.add_assoc, ← Int64.add_assoc]
    exact c2
