/-! the patch: as both see it -/
abbrev q_pt : Type := Nat × Int64 × Int64
def sdn (W : q_W) (t : Int) (k : Nat) : Option (Int64 × Int64) := (pth W k t).map fun c => (c.1 - (tpx W.T.1 (sp t)).toInt64, c.2.1 - (tpy W.T.1 (sp t)).toInt64)
def lks (th : Nat → Option (Int64 × Int64)) : Nat → Nat → List q_pt
  | _, 0 => []
  | k, d + 1 => match th k with
    | none => lks th (k + 1) d
    | some p => (k, p) :: lks th (k + 1) d
theorem lks_m {th : Nat → Option (Int64 × Int64)} {a : q_pt} : ∀ (d k : Nat), a ∈ lks th k d → k ≤ a.1 ∧ a.1 < k + d ∧ th a.1 = some a.2 := by
  intro d
  induction d with
  | zero => intro k h; cases h
  | succ d ih =>
    intro k h
    unfold lks at h
    cases hk : th k with
    | none =>
      rw [hk] at h
      obtain ⟨h1, h2, h3⟩ := ih (k + 1) h
      exact ⟨by omega, by omega, h3⟩
    | some p =>
      rw [hk] at h
      rcases List.mem_cons.mp h with q | q
      · rw [q]; exact ⟨Nat.le_refl _, by dsimp only; omega, hk⟩
      · obtain ⟨h1, h2, h3⟩ := ih (k + 1) q
        exact ⟨by omega, by omega, h3⟩
theorem lks_l {th : Nat → Option (Int64 × Int64)} : ∀ (d k : Nat), (lks th k d).length ≤ d := by
  intro d
  induction d with
  | zero => intro k; exact Nat.le_refl _
  | succ d ih =>
    intro k
    unfold lks
    have := ih (k + 1)
    cases th k with
    | none => dsimp only; omega
    | some p => dsimp only; rw [List.length_cons]; omega
def crs (a b : q_pt) : Int64 := a.2.1 * b.2.2 - a.2.2 * b.2.1
def okE (left : Bool) (b a : q_pt) : Bool := if left = true then !decide (crs b a < 0) else !decide (0 < crs b a)
def edg (L : List q_pt) (left : Bool) : Option q_pt := L.find? fun a => L.all fun b => okE left b a
def eR (o : Option q_pt) : Int32 := match o with
  | none => -1
  | some a => nI a.1
def ptb (a : q_pt) : Prop := (-120000 ≤ a.2.1.toInt ∧ a.2.1.toInt ≤ 120000) ∧ (-120000 ≤ a.2.2.toInt ∧ a.2.2.toInt ≤ 120000)
theorem mul_b {x y : Int} (h1 : -120000 ≤ x ∧ x ≤ 120000) (h2 : -120000 ≤ y ∧ y ≤ 120000) : -14400000000 ≤ x * y ∧ x * y ≤ 14400000000 := by
  have h : (x * y).natAbs ≤ 120000 * 120000 := by
    rw [Int.natAbs_mul]
    exact Nat.mul_le_mul (by omega) (by omega)
  omega
theorem crs_b {a b : q_pt} (ha : ptb a) (hb : ptb b) : -28800000000 ≤ (crs a b).toInt ∧ (crs a b).toInt ≤ 28800000000 := by
  have h1 := mul_b ha.1 hb.2
  have h2 := mul_b ha.2 hb.1
  unfold crs
  have e1 : (a.2.1 * b.2.2).toInt = a.2.1.toInt * b.2.2.toInt := tI_mul (by omega) (by omega)
  have e2 : (a.2.2 * b.2.1).toInt = a.2.2.toInt * b.2.1.toInt := tI_mul (by omega) (by omega)
  rw [tI_sub (by omega) (by omega), e1, e2]
  omega
/-- the sign of a side -/
def sgs (left : Bool) : Int32 := if left = true then 1 else -1
theorem okE_s {a b : q_pt} (ha : ptb a) (hb : ptb b) (left : Bool) : (0 : Int64) ≤ (sgs left).toInt64 * crs b a ↔ okE left b a = true := by
  have hc := crs_b hb ha
  have e0 : (0 : Int64).toInt = 0 := rfl
  cases left with
  | true =>
    unfold sgs okE
    rw [if_pos rfl, if_pos rfl, i1, l_1m]
    constructor
    · intro q
      simp only [Bool.not_eq_true', decide_eq_false_iff_not]
      exact Int64.not_lt.mpr q
    · intro q
      simp only [Bool.not_eq_true', decide_eq_false_iff_not] at q
      exact Int64.not_lt.mp q
  | false =>
    unfold sgs okE
    rw [if_neg (by decide), if_neg (by decide), im1]
    have e : ((-1 : Int64) * crs b a).toInt = -(crs b a).toInt := by
      rw [tI_mul (by rw [show (-1 : Int64).toInt = -1 from by decide]; omega) (by rw [show (-1 : Int64).toInt = -1 from by decide]; omega), show (-1 : Int64).toInt = -1 from by decide]
      omega
    simp only [Bool.not_eq_true', decide_eq_false_iff_not]
    rw [Int64.le_iff_toInt_le, Int64.lt_iff_toInt_lt, e, e0]
    omega
/-! the class's patch holds a list -/
def zP (Z : q_Z) (M : q_C) (h : Nat) : Prop := zK Z h = 11 ∧ (gR M h 0 = some (h + 1) ∧ gR M h 1 = some (h + 2) ∧ gR M h 2 = some (h + 3)) ∧ (zK Z (h + 1) = 1 ∧ zL Z (h + 1) = 100) ∧ (zK Z (h + 2) = 2 ∧ zL Z (h + 2) = 100) ∧ (zK Z (h + 3) = 2 ∧ zL Z (h + 3) = 100)
theorem zB.p {Z : q_Z} {M : q_C} {z : Nat} (h : zB Z M z) : zP Z M (z + 19) := ⟨h.2.2.2.2.2.2.1.2.2, ⟨h.2.2.2.2.2.2.2.1.1, h.2.2.2.2.2.2.2.1.2.1, h.2.2.2.2.2.2.2.1.2.2.1⟩, ⟨h.2.2.2.2.2.2.2.1.2.2.2.1, h.2.2.2.2.2.2.2.1.2.2.2.2.1⟩, ⟨h.2.2.2.2.2.2.2.1.2.2.2.2.2.1, h.2.2.2.2.2.2.2.1.2.2.2.2.2.2.1⟩, ⟨h.2.2.2.2.2.2.2.1.2.2.2.2.2.2.2.1, h.2.2.2.2.2.2.2.1.2.2.2.2.2.2.2.2⟩⟩
def PH (M : q_C) (h : Nat) (L : List q_pt) : Prop := gI M h 3 = nI L.length ∧ L.length ≤ 100 ∧ ∀ i a, L[i]? = some a → gI M (h + 1) i = nI a.1 ∧ gJ M (h + 2) i = a.2.1 ∧ gJ M (h + 3) i = a.2.2
theorem e_held {Z : q_Z} {M : q_C} {h i : Nat} {L : List q_pt} (hz : zP Z M h) (hP : PH M h L) (hi : i < L.length) : fX1_isHeld h (nI i) Z M = some 1 := by
  have hl := hP.2.1
  unfold fX1_isHeld fX1_isHeld_b23
  rw [if_neg (nI_pos (by omega)), q_gdk hz.1, hP.1, if_neg (nI_ge hi (by omega)), if_neg (show ¬ (100 : Int32) ≤ nI i from nI_ge (a := i) (b := 100) (by omega) (by omega)), q_gdc (by decide)]
theorem e_held0 {Z : q_Z} {M : q_C} {h : Nat} : fX1_isHeld h (-1) Z M = some 0 := by
  unfold fX1_isHeld fX1_isHeld_b22 fX1_isHeld_b23
  rw [if_pos (by decide), q_gdc (by decide)]
theorem e_cross {Z : q_Z} {M : q_C} {h i j : Nat} {L : List q_pt} {a b : q_pt} (hz : zP Z M h) (hP : PH M h L) (ha : L[i]? = some a) (hb : L[j]? = some b) : fX1_cross h (nI i) (nI j) Z M = some (crs a b) := by
  have hl := hP.2.1
  have hi : i < L.length := (List.getElem?_eq_some_iff.mp ha).1
  have hj : j < L.length := (List.getElem?_eq_some_iff.mp hb).1
  obtain ⟨a1, a2, a3⟩ := hP.2.2 i a ha
  obtain ⟨b1, b2, b3⟩ := hP.2.2 j b hb
  have o1 : ∀ q, q < L.length → q_ok Z (h + 2) 2 (nI q) = true := fun q hq => q_okT hz.2.2.2.1.1 rfl (by omega) (by rw [hz.2.2.2.1.2]; omega)
  have o2 : ∀ q, q < L.length → q_ok Z (h + 3) 2 (nI q) = true := fun q hq => q_okT hz.2.2.2.2.1 rfl (by omega) (by rw [hz.2.2.2.2.2]; omega)
  unfold fX1_cross fX1_cross_b47
  rw [q_gdk hz.1, e_held hz hP hi, q_bis, if_neg (by decide), e_held hz hP hj, q_bis, if_neg (by decide), hz.2.1.2.1, q_bis, q_gdc (o1 i hi), hz.2.1.2.2, q_bis, q_gdc (o2 j hj), q_bis, q_gdc (o2 i hi), q_bis, q_gdc (o1 j hj), nI_clamp (by omega), nI_clamp (by omega), a2, a3, b2, b3]
  rfl
theorem e_ffL {Z : q_Z} {M : q_C} {h i : Nat} {L : List q_pt} {a : q_pt} {left : Bool} (hz : zP Z M h) (hP : PH M h L) (hb : ∀ x, x ∈ L → ptb x) (ha : L[i]? = some a) : ∀ (d j f : Nat), j + d = L.length → d + 1 < f → (∀ (q : Nat) (x : q_pt), q < j → L[q]? = some x → okE left x a = true) →
    ∃ o, q_it (fun x : Int32 => fX1_findFarther_L2 h (nI i) (sgs left) x Z M) f (nI j) = some o ∧ ((o = .inr () ∧ ∀ (q : Nat) (x : q_pt), L[q]? = some x → okE left x a = true) ∨ ∃ (j' : Nat) (x : q_pt), o = .inl (nI j') ∧ L[j']? = some x ∧ okE left x a = false) := by
  have hl := hP.2.1
  intro d
  induction d with
  | zero =>
    intro j f h1 h2 h3
    obtain ⟨f, rfl⟩ : ∃ y, f = y + 1 := ⟨f - 1, by omega⟩
    refine ⟨.inr (), q_it_x ?_, Or.inl ⟨rfl, fun q x hx => h3 q x (by have := (List.getElem?_eq_some_iff.mp hx).1; omega) hx⟩⟩
    show fX1_findFarther_L2 h (nI i) (sgs left) (nI j) Z M = _
    unfold fX1_findFarther_L2
    rw [q_gdk hz.1, hP.1, if_pos (nI_le (by omega) (by omega))]
  | succ d ih =>
    intro j f h1 h2 h3
    obtain ⟨f, rfl⟩ : ∃ y, f = y + 1 := ⟨f - 1, by omega⟩
    have hj : j < L.length := by omega
    have hx := List.getElem?_eq_getElem hj
    generalize L[j] = x at hx
    have pre : fX1_findFarther_L2 h (nI i) (sgs left) (nI j) Z M = if (0 : Int64) ≤ (sgs left).toInt64 * crs x a then some (Sum.inl (nI (j + 1))) else some (Sum.inr (Sum.inl (nI j))) := by
      unfold fX1_findFarther_L2
      rw [q_gdk hz.1, hP.1, if_neg (nI_ge hj (by omega)), e_cross hz hP hx ha, q_bis]
      simp only [q_nm]
      rw [nI_1]
    have hs := okE_s (hb a (List.mem_of_getElem? ha)) (hb x (List.mem_of_getElem? hx)) left
    cases ho : okE left x a with
    | true =>
      rw [if_pos (hs.mpr ho)] at pre
      rw [q_it_s (y := nI (j + 1)) pre]
      exact ih (j + 1) f (by omega) (by omega) (fun q y hq hy => by
        by_cases e : q = j
        · subst e
          rw [hx] at hy
          cases hy
          exact ho
        · exact h3 q y (by omega) hy)
    | false =>
      rw [if_neg (fun q => by rw [hs.mp q] at ho; cases ho)] at pre
      exact ⟨_, q_it_x pre, Or.inr ⟨j, x, rfl, hx, ho⟩⟩
theorem e_ffr {Z : q_Z} {M : q_C} {h i : Nat} {L : List q_pt} {a : q_pt} {left : Bool} (hz : zP Z M h) (hP : PH M h L) (hb : ∀ x, x ∈ L → ptb x) (ha : L[i]? = some a) :
    (fX1_findFarther h (nI i) (sgs left) Z M = some (-1) ∧ (L.all fun b => okE left b a) = true) ∨ ∃ j, j < L.length ∧ fX1_findFarther h (nI i) (sgs left) Z M = some (nI j) ∧ (L.all fun b => okE left b a) = false := by
  have hl := hP.2.1
  obtain ⟨o, h1, h2⟩ := e_ffL (left := left) hz hP hb ha L.length 0 q_FU (by omega) (by unfold q_FU; omega) (fun q x hq => by omega)
  rw [nI_0] at h1
  have e : fX1_findFarther h (nI i) (sgs left) Z M = q_sm o (fun e => some e) (fun _ => some (-1)) := by
    unfold fX1_findFarther
    rw [h1, q_bis]
    rfl
  rw [e]
  rcases h2 with ⟨q1, q2⟩ | ⟨j, x, q1, q2, q3⟩
  · refine Or.inl ⟨by rw [q1]; rfl, List.all_eq_true.mpr (fun x hx => ?_)⟩
    obtain ⟨q, hq⟩ := List.mem_iff_getElem?.mp hx
    exact q2 q x hq
  · exact Or.inr ⟨j, (List.getElem?_eq_some_iff.mp q2).1, by rw [q1]; rfl, List.all_eq_false.mpr ⟨x, List.mem_of_getElem? q2, by rw [q3]; decide⟩⟩
theorem e_edL {Z : q_Z} {M : q_C} {h : Nat} {L : List q_pt} {left : Bool} (hz : zP Z M h) (hP : PH M h L) (hb : ∀ x, x ∈ L → ptb x) : ∀ (d i r f : Nat), i + d = L.length → r < L.length ∨ d = 0 → d + 1 < f → edg L left = (L.drop i).find? (fun a => L.all fun b => okE left b a) →
    ∃ o, q_it (fun x : Int32 × Int32 => fX1_edge_L15 h (sgs left) x.1 x.2 Z M) f (nI r, nI i) = some o ∧ ((o = .inr () ∧ edg L left = none) ∨ ∃ (i' : Nat) (a : q_pt), o = .inl (nI i') ∧ L[i']? = some a ∧ edg L left = some a) := by
  have hl := hP.2.1
  intro d
  induction d with
  | zero =>
    intro i r f h1 h2 h3 h4
    obtain ⟨f, rfl⟩ : ∃ y, f = y + 1 := ⟨f - 1, by omega⟩
    refine ⟨.inr (), q_it_x ?_, Or.inl ⟨rfl, ?_⟩⟩
    · show fX1_edge_L15 h (sgs left) (nI r) (nI i) Z M = _
      unfold fX1_edge_L15
      rw [q_gdk hz.1, hP.1, if_pos (nI_le (by omega) (by omega))]
    · rw [h4, List.drop_eq_nil_of_le (by omega)]
      rfl
  | succ d ih =>
    intro i r f h1 h2 h3 h4
    obtain ⟨f, rfl⟩ : ∃ y, f = y + 1 := ⟨f - 1, by omega⟩
    have hi : i < L.length := by omega
    have hr : r < L.length := by omega
    rw [List.drop_eq_getElem_cons hi] at h4
    have hx := List.getElem?_eq_getElem hi
    generalize L[i] = a at hx h4
    have hy := List.getElem?_eq_getElem hr
    generalize L[r] = y at hy
    have hs := okE_s (hb a (List.mem_of_getElem? hx)) (hb y (List.mem_of_getElem? hy)) left
    have pre : fX1_edge_L15 h (sgs left) (nI r) (nI i) Z M = if (0 : Int64) ≤ (sgs left).toInt64 * crs y a then (Option.bind (fX1_findFarther h (nI i) (sgs left) Z M) fun r_4 => if r_4 = (-1 : Int32) then some (Sum.inr (Sum.inl (nI i))) else some (Sum.inl (r_4, nI (i + 1)))) else some (Sum.inl (nI r, nI (i + 1))) := by
      unfold fX1_edge_L15 fX1_edge_b58
      rw [q_gdk hz.1, hP.1, if_neg (nI_ge hi (by omega)), e_cross hz hP hy hx, q_bis]
      simp only [q_nm]
      rw [nI_1]
    cases ho : okE left y a with
    | true =>
      rw [if_pos (hs.mpr ho)] at pre
      rcases e_ffr (left := left) hz hP hb hx with ⟨q1, q2⟩ | ⟨j, q0, q1, q2⟩
      · rw [q1, q_bis, if_pos rfl] at pre
        rw [List.find?_cons_of_pos (p := fun a => L.all fun b => okE left b a) q2] at h4
        exact ⟨_, q_it_x pre, Or.inr ⟨i, a, rfl, hx, h4⟩⟩
      · rw [q1, q_bis, if_neg (fun q => m1_ne (k := j) (by omega) q.symm)] at pre
        rw [List.find?_cons_of_neg (by rw [q2]; decide)] at h4
        rw [q_it_s (y := (nI j, nI (i + 1))) pre]
        exact ih (i + 1) j f (by omega) (Or.inl q0) (by omega) h4
    | false =>
      rw [if_neg (fun q => by rw [hs.mp q] at ho; cases ho)] at pre
      have q2 : (L.all fun b => okE left b a) = false := List.all_eq_false.mpr ⟨y, List.mem_of_getElem? hy, by rw [ho]; decide⟩
      rw [List.find?_cons_of_neg (by rw [q2]; decide)] at h4
      rw [q_it_s (y := (nI r, nI (i + 1))) pre]
      exact ih (i + 1) r f (by omega) (Or.inl hr) (by omega) h4
theorem e_edge {Z : q_Z} {M : q_C} {h : Nat} {L : List q_pt} (v : Int32) (hz : zP Z M h) (hP : PH M h L) (hb : ∀ x, x ∈ L → ptb x) :
    (fX1_edge h v Z M = some (-1) ∧ edg L (!decide (v = 0)) = none) ∨ ∃ i a, fX1_edge h v Z M = some (nI i) ∧ L[i]? = some a ∧ edg L (!decide (v = 0)) = some a := by
  have hl := hP.2.1
  obtain ⟨o, h1, h2⟩ := e_edL (left := !decide (v = 0)) hz hP hb L.length 0 0 q_FU (by omega) (by omega) (by unfold q_FU; omega) rfl
  rw [nI_0] at h1
  have e : fX1_edge h v Z M = q_sm o (fun e => some e) (fun _ => some (-1)) := by
    unfold fX1_edge fX1_edge_b9
    by_cases q : v = 0
    · have es : sgs (!decide (v = 0)) = -1 := by rw [q]; decide
      rw [es] at h1
      rw [if_pos q, h1, q_bis]
      rfl
    · have es : sgs (!decide (v = 0)) = 1 := by
        have : decide (v = 0) = false := decide_eq_false q
        rw [this]; rfl
      rw [es] at h1
      rw [if_neg q, h1, q_bis]
      rfl
  rw [e]
  rcases h2 with ⟨q1, q2⟩ | ⟨i, a, q1, q2, q3⟩
  · exact Or.inl ⟨by rw [q1]; rfl, q2⟩
  · exact Or.inr ⟨i, a, by rw [q1]; rfl, q2, q3⟩
/-- how wide -/
def onn (a b : q_pt) : Int64 := a.2.1 * b.2.1 + a.2.2 * b.2.2
def wd2 (a b : q_pt) : Int32 := if 0 < onn a b then (if 1000 * ab (crs a b) / onn a b ≤ 2147483647 then (1000 * ab (crs a b) / onn a b).toInt32 else 2147483647) else -2
def wdt (L : List q_pt) : Int32 := match edg L true with
  | none => -2
  | some a => match edg L false with
    | none => -2
    | some b => wd2 a b
theorem e_width {Z : q_Z} {M : q_C} {h : Nat} {L : List q_pt} (hz : zP Z M h) (hP : PH M h L) (hb : ∀ x, x ∈ L → ptb x) : fX1_width h Z M = some (if L.length = 0 then -1 else wdt L) := by
  have hl := hP.2.1
  unfold fX1_width fX1_width_b38
  rw [q_gdk hz.1, hP.1]
  by_cases h0 : L.length = 0
  · rw [if_pos h0, h0, if_neg (by decide)]
  · rw [if_neg h0, if_pos (show (1 : Int32) ≤ nI L.length from nI_le (a := 1) (by omega) (by omega))]
    have e1 := e_edge (1 : Int32) hz hP hb
    have e2 := e_edge (0 : Int32) hz hP hb
    rw [show (!decide ((1 : Int32) = 0)) = true by decide] at e1
    rw [show (!decide ((0 : Int32) = 0)) = false by decide] at e2
    unfold wdt
    rcases e1 with ⟨p1, p2⟩ | ⟨i, a, p1, p2, p3⟩
    · rw [p2]
      rcases e2 with ⟨q1, q2⟩ | ⟨j, b, q1, q2, q3⟩
      · rw [p1, q_bis, q1, q_bis, e_held0, q_bis, if_pos rfl]
      · rw [p1, q_bis, q1, q_bis, e_held0, q_bis, if_pos rfl]
    · have hi : i < L.length := (List.getElem?_eq_some_iff.mp p2).1
      rw [p3]
      dsimp only
      rcases e2 with ⟨q1, q2⟩ | ⟨j, b, q1, q2, q3⟩
      · rw [q2, p1, q_bis, q1, q_bis, e_held hz hP hi, q_bis, if_neg (by decide), e_held0, q_bis, if_pos rfl]
      · have hj : j < L.length := (List.getElem?_eq_some_iff.mp q2).1
        obtain ⟨a1, a2, a3⟩ := hP.2.2 i a p2
        obtain ⟨b1, b2, b3⟩ := hP.2.2 j b q2
        have o1 : ∀ q, q < L.length → q_ok Z (h + 2) 2 (nI q) = true := fun q hq => q_okT hz.2.2.2.1.1 rfl (by omega) (by rw [hz.2.2.2.1.2]; omega)
        have o2 : ∀ q, q < L.length → q_ok Z (h + 3) 2 (nI q) = true := fun q hq => q_okT hz.2.2.2.2.1 rfl (by omega) (by rw [hz.2.2.2.2.2]; omega)
        rw [q3, p1, q_bis, q1, q_bis, e_held hz hP hi, q_bis, if_neg (by decide), e_held hz hP hj, q_bis, if_neg (by decide), hz.2.1.2.1, q_bis, q_gdc (o1 i hi), q_bis, q_gdc (o1 j hj), hz.2.1.2.2, q_bis, q_gdc (o2 i hi), q_bis, q_gdc (o2 j hj), nI_clamp (by omega), nI_clamp (by omega), a2, a3, b2, b3]
        simp only [q_nm]
        rw [show a.2.1 * b.2.1 + a.2.2 * b.2.2 = onn a b from rfl]
        unfold wd2
        by_cases c0 : 0 < onn a b
        · have hn0 : ¬ onn a b = 0 := fun q => by rw [q] at c0; exact absurd c0 (by decide)
          rw [if_pos c0, if_pos c0, e_cross hz hP p2 q2, q_bis, e_abs, q_bis, q_gdc (by simp [hn0])]
          unfold fJ9_min_f86c9 fJ9_min_f86c9_b11
          generalize 1000 * ab (crs a b) / onn a b = x
          by_cases c1 : x < 2147483647
          · rw [if_pos c1, q_bis, if_pos (Int64.le_of_lt c1)]
          · rw [if_neg c1, q_bis]
            by_cases c2 : x ≤ 2147483647
            · have : x = 2147483647 := Int64.le_antisymm c2 (Int64.not_lt.mp c1)
              rw [if_pos c2, this]
            · rw [if_neg c2]
              rfl
        · rw [if_neg c0, if_neg c0]
