/-! how the model lays a way -/
def bpr (s : Nat → Int32) : Int64 := lN (q_sqrt (nA (s 2).toInt64 * nA (s 2).toInt64 + nA (s 3).toInt64 * nA (s 3).toInt64))
def bpx (E : q_TB) (s : Nat → Int32) (d : Int64) : Int64 := (tpx E (s 1)).toInt64 + (s 2).toInt64 * d / bpr s
def bpy (E : q_TB) (s : Nat → Int32) (d : Int64) : Int64 := (tpy E (s 1)).toInt64 + (s 3).toInt64 * d / bpr s
/-- what a sight may be -/
def okS1 (s : Nat → Int32) : Prop := (0 ≤ (s 0).toInt ∧ (s 0).toInt ≤ 2) ∧ (-300 ≤ (s 1).toInt ∧ (s 1).toInt ≤ 300) ∧ (-1000 ≤ (s 2).toInt ∧ (s 2).toInt ≤ 1000) ∧ (-1000 ≤ (s 3).toInt ∧ (s 3).toInt ≤ 1000) ∧ ((s 2).toInt ≠ 0 ∨ (s 3).toInt ≠ 0) ∧ (0 ≤ (s 4).toInt ∧ (s 4).toInt ≤ 1000)
def M_sg (M : q_C) (m n : Nat) (sg : Nat → Nat → Int32) : Prop := n ≤ 12 ∧ gI M m 6 = nI n ∧ ∀ i, i < n → ∀ k, k < 5 → gI M (m + 7) (5 * i + k) = sg i k
theorem M_sg.mv {M M' : q_C} {m n : Nat} {sg : Nat → Nat → Int32} (h : M_sg M m n sg) (e : M'.1 = M.1) : M_sg M' m n sg := by
  unfold M_sg gI at h ⊢
  rw [e]
  exact h
theorem nA_i (a : Int32) : nA a.toInt64 = a.toInt.natAbs := by unfold nA; rw [Int32.toInt_toInt64]
theorem bpr_ok {s : Nat → Int32} (h : okS1 s) : ¬ bpr s = 0 ∧ (s 2).toInt64 * (s 2).toInt64 + (s 3).toInt64 * (s 3).toInt64 = lN (nA (s 2).toInt64 * nA (s 2).toInt64 + nA (s 3).toInt64 * nA (s 3).toInt64) ∧ nA (s 2).toInt64 * nA (s 2).toInt64 + nA (s 3).toInt64 * nA (s 3).toInt64 ≤ 2000000 := by
  obtain ⟨-, -, h2, h3, h4, -⟩ := h
  have e2 := nA_i (s 2)
  have e3 := nA_i (s 3)
  have b2 : nA (s 2).toInt64 ≤ 1000 := by omega
  have b3 : nA (s 3).toInt64 ≤ 1000 := by omega
  have p2 : nA (s 2).toInt64 * nA (s 2).toInt64 ≤ 1000 * 1000 := Nat.mul_le_mul b2 b2
  have p3 : nA (s 3).toInt64 * nA (s 3).toInt64 ≤ 1000 * 1000 := Nat.mul_le_mul b3 b3
  refine ⟨fun q => ?_, by rw [l_sq (by omega), l_sq (by omega), lN_add], by omega⟩
  unfold bpr at q
  have hp : 0 < nA (s 2).toInt64 * nA (s 2).toInt64 + nA (s 3).toInt64 * nA (s 3).toInt64 := by
    rcases h4 with g | g
    · have : 0 < nA (s 2).toInt64 := by omega
      have := Nat.mul_pos this this
      omega
    · have : 0 < nA (s 3).toInt64 := by omega
      have := Nat.mul_pos this this
      omega
  have hn2 : nA (s 2).toInt64 * nA (s 2).toInt64 + nA (s 3).toInt64 * nA (s 3).toInt64 ≤ 2000000 := by omega
  clear p2 p3
  generalize nA (s 2).toInt64 * nA (s 2).toInt64 + nA (s 3).toInt64 * nA (s 3).toInt64 = n at q hp hn2
  obtain ⟨g1, g2⟩ := q_sq_ok n
  have hk : q_sqrt n ≠ 0 := fun e => by rw [e] at g2; omega
  have hb : q_sqrt n < 2000 := q_sq_mono (by omega)
  exact hk ((pk_lEQ (a := q_sqrt n) (b := 0) (by omega) (by decide)).mp q)
theorem i_5 {i k : Nat} : (5 : Int32) * nI i + nI k = nI (5 * i + k) := by rw [show (5 : Int32) = nI 5 from rfl, pk_mul, nI_add]
/-- a place of the sights' row -/
theorem M_sg.at {Z : q_Z} {M : q_C} {m n i k : Nat} {sg : Nat → Nat → Int32} (hz : zM Z M m) (h : M_sg M m n sg) (hi : i < n) (hk : k < 5) : q_ok Z (m + 1 + 6) 1 ((5 : Int32) * nI i + nI k) = true ∧ gI M (m + 1 + 6) ((5 : Int32) * nI i + nI k).toNatClampNeg = sg i k := by
  have hn := h.1
  refine ⟨q_okT (hz.k1 (k := 6) (by decide)) i_5 (by omega) (by rw [hz.l (k := 6) (n := 60) (by decide) rfl]; omega), ?_⟩
  rw [i_5, nI_clamp (by omega)]
  exact h.2.2 i hi k hk
theorem e_seenX {Z : q_Z} {M : q_C} {m n i : Nat} {sg : Nat → Nat → Int32} {E : q_TB} (hz : zM Z M m) (h : M_sg M m n sg) (hi : i < n) (ho : okS1 (sg i)) (hE : M_tb M (m + 1) (m + 2) 0 E) (d : Int64) : fX7_seenX m (nI i) d Z M = some (bpx E (sg i) d) := by
  obtain ⟨o1, v1⟩ := M_sg.at (k := 1) hz h hi (by decide)
  obtain ⟨o2, v2⟩ := M_sg.at (k := 2) hz h hi (by decide)
  obtain ⟨o3, v3⟩ := M_sg.at (k := 3) hz h hi (by decide)
  rw [show nI 1 = (1 : Int32) from rfl] at o1 v1
  rw [show nI 2 = (2 : Int32) from rfl] at o2 v2
  rw [show nI 3 = (3 : Int32) from rfl] at o3 v3
  obtain ⟨r1, r2, r3⟩ := bpr_ok ho
  have n1 : fX7_now m (0 : Int32) (sg i 1) (0 : Int32) Z M = some (tpx E (sg i 1)) := e_now (w := 0) (ax := 0) hz (by decide) (by decide) hE _
  have hr : fX7_root ((sg i 2).toInt64 * (sg i 2).toInt64 + (sg i 3).toInt64 * (sg i 3).toInt64) = some (bpr (sg i)) := by rw [r2, e_root (by omega)]; rfl
  unfold fX7_seenX bpx
  rw [q_gdk hz.1]
  simp only [hz.a (f := 7) (k := 6) (by decide) rfl, q_bis, q_gdc o1, q_gdc o2, q_gdc o3, v1, v2, v3, n1, hr]
  rw [q_gdc (by simp [r1])]
theorem e_seenY {Z : q_Z} {M : q_C} {m n i : Nat} {sg : Nat → Nat → Int32} {E : q_TB} (hz : zM Z M m) (h : M_sg M m n sg) (hi : i < n) (ho : okS1 (sg i)) (hE : M_tb M (m + 1) (m + 2) 0 E) (d : Int64) : fX7_seenY m (nI i) d Z M = some (bpy E (sg i) d) := by
  obtain ⟨o1, v1⟩ := M_sg.at (k := 1) hz h hi (by decide)
  obtain ⟨o2, v2⟩ := M_sg.at (k := 2) hz h hi (by decide)
  obtain ⟨o3, v3⟩ := M_sg.at (k := 3) hz h hi (by decide)
  rw [show nI 1 = (1 : Int32) from rfl] at o1 v1
  rw [show nI 2 = (2 : Int32) from rfl] at o2 v2
  rw [show nI 3 = (3 : Int32) from rfl] at o3 v3
  obtain ⟨r1, r2, r3⟩ := bpr_ok ho
  have n1 : fX7_now m (0 : Int32) (sg i 1) (1 : Int32) Z M = some (tpy E (sg i 1)) := e_now (w := 0) (ax := 1) hz (by decide) (by decide) hE _
  have hr : fX7_root ((sg i 2).toInt64 * (sg i 2).toInt64 + (sg i 3).toInt64 * (sg i 3).toInt64) = some (bpr (sg i)) := by rw [r2, e_root (by omega)]; rfl
  unfold fX7_seenY bpy
  rw [q_gdk hz.1]
  simp only [hz.a (f := 7) (k := 6) (by decide) rfl, q_bis, q_gdc o1, q_gdc o2, q_gdc o3, v1, v2, v3, n1, hr]
  rw [q_gdc (by simp [r1])]
/-- one aiming: the speed is bettered by what lacks at the later night; none if it is lost there -/
def aim1 (S : q_SK) (t0 t1 : Int) (ax ay bx by_ : Int64) (w : Int64 × Int64) : Option (Int64 × Int64) := (TT S t0 (ax, ay, w.1, w.2) t1).map fun c => (w.1 + (bx - c.1) / (sp t1 - sp t0).toInt64, w.2 + (by_ - c.2.1) / (sp t1 - sp t0).toInt64)
/-- n aimings, of which the last that went counts -/
def aimM (S : q_SK) (t0 t1 : Int) (ax ay bx by_ : Int64) : Nat → Int64 × Int64 → Int64 × Int64
  | 0, w => w
  | n + 1, w => match aim1 S t0 t1 ax ay bx by_ w with
    | none => w
    | some w1 => aimM S t0 t1 ax ay bx by_ n w1
/-- n aimings that all go -/
def aimR (S : q_SK) (t0 t1 : Int) (ax ay bx by_ : Int64) : Nat → Int64 × Int64 → Option (Int64 × Int64)
  | 0, w => some w
  | n + 1, w => (aim1 S t0 t1 ax ay bx by_ w).bind (aimR S t0 t1 ax ay bx by_ n)
theorem aim_some {S : q_SK} {t0 t1 : Int} {ax ay bx by_ : Int64} : ∀ (n : Nat) (w w1 : Int64 × Int64), aimR S t0 t1 ax ay bx by_ n w = some w1 → aimM S t0 t1 ax ay bx by_ n w = w1 := by
  intro n
  induction n with
  | zero => intro w w1 h; exact Option.some.inj h
  | succ n ih =>
    intro w w1 h
    obtain ⟨w2, h1, h2⟩ := q_biE (show (aim1 S t0 t1 ax ay bx by_ w).bind _ = _ from h)
    show (match aim1 S t0 t1 ax ay bx by_ w with | none => w | some w1 => aimM S t0 t1 ax ay bx by_ n w1) = w1
    rw [h1]
    exact ih w2 w1 h2
theorem aim_none {S : q_SK} {t0 t1 : Int} {ax ay bx by_ : Int64} : ∀ (n : Nat) (w : Int64 × Int64), aimR S t0 t1 ax ay bx by_ n w = none → TT S t0 (ax, ay, (aimM S t0 t1 ax ay bx by_ n w).1, (aimM S t0 t1 ax ay bx by_ n w).2) t1 = none := by
  intro n
  induction n with
  | zero => intro w h; cases h
  | succ n ih =>
    intro w h
    have h : (aim1 S t0 t1 ax ay bx by_ w).bind (aimR S t0 t1 ax ay bx by_ n) = none := h
    show TT S t0 (ax, ay, (match aim1 S t0 t1 ax ay bx by_ w with | none => w | some w1 => aimM S t0 t1 ax ay bx by_ n w1).1, (match aim1 S t0 t1 ax ay bx by_ w with | none => w | some w1 => aimM S t0 t1 ax ay bx by_ n w1).2) t1 = none
    cases hw : aim1 S t0 t1 ax ay bx by_ w with
    | none =>
      dsimp only
      unfold aim1 at hw
      cases hT : TT S t0 (ax, ay, w.1, w.2) t1 with
      | none => rfl
      | some c => rw [hT] at hw; cases hw
    | some w1 =>
      rw [hw] at h
      exact ih w1 h
