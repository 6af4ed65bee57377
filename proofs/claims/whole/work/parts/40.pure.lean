/-! PURE: words for evaluating the decompiled functions -/
theorem gI_sI (M : q_C) (a k : Nat) (v : Int32) (b j : Nat) : gI (sI M a k v) b j = if b = a ∧ j = k then v else gI M b j := rfl
theorem gI_sJ (M : q_C) (a k : Nat) (v : Int64) (b j : Nat) : gI (sJ M a k v) b j = gI M b j := rfl
theorem gI_sR (M : q_C) (a k : Nat) (v : Option Nat) (b j : Nat) : gI (sR M a k v) b j = gI M b j := rfl
theorem gJ_sJ (M : q_C) (a k : Nat) (v : Int64) (b j : Nat) : gJ (sJ M a k v) b j = if b = a ∧ j = k then v else gJ M b j := rfl
theorem gJ_sI (M : q_C) (a k : Nat) (v : Int32) (b j : Nat) : gJ (sI M a k v) b j = gJ M b j := rfl
theorem gJ_sR (M : q_C) (a k : Nat) (v : Option Nat) (b j : Nat) : gJ (sR M a k v) b j = gJ M b j := rfl
theorem gR_sR (M : q_C) (a k : Nat) (v : Option Nat) (b j : Nat) : gR (sR M a k v) b j = if b = a ∧ j = k then v else gR M b j := rfl
theorem gR_sI (M : q_C) (a k : Nat) (v : Int32) (b j : Nat) : gR (sI M a k v) b j = gR M b j := rfl
theorem gR_sJ (M : q_C) (a k : Nat) (v : Int64) (b j : Nat) : gR (sJ M a k v) b j = gR M b j := rfl
theorem gI_same (M : q_C) (a k : Nat) (v : Int32) : gI (sI M a k v) a k = v := by rw [gI_sI, if_pos ⟨rfl, rfl⟩]
theorem gJ_same (M : q_C) (a k : Nat) (v : Int64) : gJ (sJ M a k v) a k = v := by rw [gJ_sJ, if_pos ⟨rfl, rfl⟩]
theorem gR_same (M : q_C) (a k : Nat) (v : Option Nat) : gR (sR M a k v) a k = v := by rw [gR_sR, if_pos ⟨rfl, rfl⟩]
theorem gI_k (M : q_C) (a k : Nat) (v : Int32) {b j : Nat} (h : j ≠ k) : gI (sI M a k v) b j = gI M b j := by rw [gI_sI, if_neg (fun q => h q.2)]
theorem gJ_k (M : q_C) (a k : Nat) (v : Int64) {b j : Nat} (h : j ≠ k) : gJ (sJ M a k v) b j = gJ M b j := by rw [gJ_sJ, if_neg (fun q => h q.2)]
theorem gI_a (M : q_C) (a k : Nat) (v : Int32) {b j : Nat} (h : b ≠ a) : gI (sI M a k v) b j = gI M b j := by rw [gI_sI, if_neg (fun q => h q.1)]
theorem gJ_a (M : q_C) (a k : Nat) (v : Int64) {b j : Nat} (h : b ≠ a) : gJ (sJ M a k v) b j = gJ M b j := by rw [gJ_sJ, if_neg (fun q => h q.1)]
theorem gR_a (M : q_C) (a k : Nat) (v : Option Nat) {b j : Nat} (h : b ≠ a) : gR (sR M a k v) b j = gR M b j := by rw [gR_sR, if_neg (fun q => h q.1)]
theorem q_gdt {α : Type} (k : Option α) : q_gd true k = k := rfl
theorem q_gdc {α : Type} {b : Bool} (h : b = true) (k : Option α) : q_gd b k = k := by rw [h]; rfl
theorem q_gdk {α : Type} {a b : Nat} (h : a = b) (k : Option α) : q_gd (a == b) k = k := by rw [h]; simp [q_gd]
theorem q_bis {α β : Type} (a : α) (k : α → Option β) : (some a).bind k = k a := rfl
theorem q_b2s {α β γ : Type} (a : α) (b : β) (k : α → β → Option γ) : q_b2 (some (a, b)) k = k a b := rfl
theorem q_b3s {α β γ δ : Type} (a : α) (b : β) (c : γ) (k : α → β → γ → Option δ) : q_b3 (some (a, b, c)) k = k a b c := rfl
theorem q_ons {β : Type} (a : Nat) (A : β) (B : Nat → β) : q_on (some a) A B = B a := rfl
theorem q_onn {β : Type} (A : β) (B : Nat → β) : q_on none A B = A := rfl
theorem q_sml {α β γ : Type} (x : α) (f : α → γ) (g : β → γ) : q_sm (.inl x) f g = f x := rfl
theorem q_smr {α β γ : Type} (x : β) (f : α → γ) (g : β → γ) : q_sm (.inr x) f g = g x := rfl
theorem q_okT {Z : q_Z} {a kd i : Nat} {x : Int32} (hk : zK Z a = kd) (hx : x = nI i) (hb : i < 2 ^ 31) (hl : i < zL Z a) : q_ok Z a kd x = true := by
  subst hx
  unfold q_ok
  rw [hk, nI_clamp hb]
  simp [nI_pos hb, hl]
/-- truth as an int -/
def bi (c : Prop) [Decidable c] : Int32 := if c then 1 else 0
theorem bi_t {c : Prop} [Decidable c] (h : c) : bi c = 1 := if_pos h
theorem bi_f {c : Prop} [Decidable c] (h : ¬ c) : bi c = 0 := if_neg h
theorem bi_0 {c : Prop} [Decidable c] : bi c = 0 ↔ ¬ c := by
  by_cases h : c
  · rw [bi_t h]; simp [h]
  · rw [bi_f h]; simp [h]
theorem bi_1 {c : Prop} [Decidable c] : bi c = 1 ↔ c := by
  by_cases h : c
  · rw [bi_t h]; simp [h]
  · rw [bi_f h]; simp [h]
theorem bi_ok {c : Prop} [Decidable c] : (decide (bi c = 0) || decide (bi c = 1)) = true := by
  by_cases h : c
  · simp [bi_t h]
  · simp [bi_f h]
theorem bi_gd {α : Type} {c : Prop} [Decidable c] (k : Option α) : q_gd (decide (bi c = 0) || decide (bi c = 1)) k = k := by rw [bi_ok]; rfl
theorem bi_if {α : Type} {c : Prop} [Decidable c] (A B : α) : (if bi c = 0 then A else B) = if c then B else A := by
  by_cases h : c
  · rw [bi_t h]; simp [h]
  · rw [bi_f h]; simp [h]
theorem bi_if0 {α : Type} (A B : α) : (if (0 : Int32) = 0 then A else B) = A := if_pos rfl
theorem bi_if1 {α : Type} (A B : α) : (if (1 : Int32) = 0 then A else B) = B := if_neg (by decide)
theorem bi_ii {c d : Prop} [Decidable c] [Decidable d] (h : c ↔ d) : bi c = bi d := by
  by_cases hc : c
  · rw [bi_t hc, bi_t (h.mp hc)]
  · rw [bi_f hc, bi_f (fun q => hc (h.mpr q))]
/-- memories that agree on a set of addresses -/
def q_ag (P : Nat → Prop) (M M' : q_C) : Prop := ∀ a, P a → M'.1 a = M.1 a ∧ M'.2.1 a = M.2.1 a ∧ M'.2.2 a = M.2.2 a
theorem q_ag.rf {P : Nat → Prop} {M : q_C} : q_ag P M M := fun _ _ => ⟨rfl, rfl, rfl⟩
theorem q_ag.tr {P : Nat → Prop} {M M1 M2 : q_C} (h : q_ag P M M1) (h2 : q_ag P M1 M2) : q_ag P M M2 := fun a ha => ⟨(h2 a ha).1.trans (h a ha).1, (h2 a ha).2.1.trans (h a ha).2.1, (h2 a ha).2.2.trans (h a ha).2.2⟩
theorem q_ag.wk {P P' : Nat → Prop} {M M' : q_C} (h : q_ag P M M') (hp : ∀ a, P' a → P a) : q_ag P' M M' := fun a ha => h a (hp a ha)
theorem q_ag.sy {P : Nat → Prop} {M M' : q_C} (h : q_ag P M M') : q_ag P M' M := fun a ha => ⟨(h a ha).1.symm, (h a ha).2.1.symm, (h a ha).2.2.symm⟩
theorem q_ag.I {P : Nat → Prop} {M M' : q_C} (h : q_ag P M M') {a : Nat} (ha : P a) (k : Nat) : gI M' a k = gI M a k := congrFun (h a ha).1 k
theorem q_ag.J {P : Nat → Prop} {M M' : q_C} (h : q_ag P M M') {a : Nat} (ha : P a) (k : Nat) : gJ M' a k = gJ M a k := congrFun (h a ha).2.1 k
theorem q_ag.R {P : Nat → Prop} {M M' : q_C} (h : q_ag P M M') {a : Nat} (ha : P a) (k : Nat) : gR M' a k = gR M a k := congrFun (h a ha).2.2 k
theorem q_ag.sI {P : Nat → Prop} {M M' : q_C} (h : q_ag P M M') {a : Nat} (ha : ¬ P a) (k : Nat) (v : Int32) : q_ag P M (sI M' a k v) := fun b hb => ⟨(q_u2a _ _ _ _ (fun e => ha (by rw [← e]; exact hb))).trans (h b hb).1, (h b hb).2.1, (h b hb).2.2⟩
theorem q_ag.sJ {P : Nat → Prop} {M M' : q_C} (h : q_ag P M M') {a : Nat} (ha : ¬ P a) (k : Nat) (v : Int64) : q_ag P M (sJ M' a k v) := fun b hb => ⟨(h b hb).1, (q_u2a _ _ _ _ (fun e => ha (by rw [← e]; exact hb))).trans (h b hb).2.1, (h b hb).2.2⟩
theorem q_ag.sR {P : Nat → Prop} {M M' : q_C} (h : q_ag P M M') {a : Nat} (ha : ¬ P a) (k : Nat) (v : Option Nat) : q_ag P M (sR M' a k v) := fun b hb => ⟨(h b hb).1, (h b hb).2.1, (q_u2a _ _ _ _ (fun e => ha (by rw [← e]; exact hb))).trans (h b hb).2.2⟩
/-! loops -/
theorem q_it_s {σ ρ : Type} {f : σ → Option (σ ⊕ ρ)} {n : Nat} {x y : σ} (h : f x = some (.inl y)) : q_it f (n + 1) x = q_it f n y := by
  show (match f x with | none => none | some (.inl y) => q_it f n y | some (.inr r) => some r) = _
  rw [h]
theorem q_it_x {σ ρ : Type} {f : σ → Option (σ ⊕ ρ)} {n : Nat} {x : σ} {r : ρ} (h : f x = some (.inr r)) : q_it f (n + 1) x = some r := by
  show (match f x with | none => none | some (.inl y) => q_it f n y | some (.inr r) => some r) = _
  rw [h]
/-- a loop with an invariant that counts down -/
theorem q_it_inv {σ ρ : Type} (f : σ → Option (σ ⊕ ρ)) (I : Nat → σ → Prop) (Q : ρ → Prop) (hs : ∀ k x, I k x → (∃ r, f x = some (.inr r) ∧ Q r) ∨ (∃ j y, k = j + 1 ∧ f x = some (.inl y) ∧ I j y)) : ∀ (k n : Nat) (x : σ), I k x → k < n → ∃ r, q_it f n x = some r ∧ Q r := by
  intro k
  induction k with
  | zero =>
    intro n x hI hn
    obtain ⟨m, rfl⟩ : ∃ m, n = m + 1 := ⟨n - 1, by omega⟩
    rcases hs 0 x hI with ⟨r, h1, h2⟩ | ⟨j, y, h1, _⟩
    · exact ⟨r, q_it_x h1, h2⟩
    · omega
  | succ k ih =>
    intro n x hI hn
    obtain ⟨m, rfl⟩ : ∃ m, n = m + 1 := ⟨n - 1, by omega⟩
    rcases hs (k + 1) x hI with ⟨r, h1, h2⟩ | ⟨j, y, h1, h2, h3⟩
    · exact ⟨r, q_it_x h1, h2⟩
    · obtain rfl : j = k := by omega
      obtain ⟨r, h4, h5⟩ := ih m y h3 (by omega)
      exact ⟨r, by rw [q_it_s h2]; exact h4, h5⟩
/-! small methods without memory -/
theorem e_isWithin (v a b : Int32) : fX6_isWithin v a b = some (bi (a ≤ v ∧ v ≤ b)) := by
  unfold fX6_isWithin fX6_isWithin_b14 fX6_isWithin_b15
  by_cases h1 : v < a
  · rw [if_pos h1, bi_f (fun q => Int32.not_le.mpr h1 q.1)]; rfl
  · rw [if_neg h1]
    by_cases h2 : b < v
    · rw [if_pos h2, bi_f (fun q => Int32.not_le.mpr h2 q.2)]; rfl
    · rw [if_neg h2, bi_t ⟨Int32.not_lt.mp h1, Int32.not_lt.mp h2⟩]; rfl
theorem e_is (v a b : Int32) : fX7_is v a b = some (bi (a ≤ v ∧ v ≤ b)) := by
  unfold fX7_is fX7_is_b14 fX7_is_b15
  by_cases h1 : v < a
  · rw [if_pos h1, bi_f (fun q => Int32.not_le.mpr h1 q.1)]; rfl
  · rw [if_neg h1]
    by_cases h2 : b < v
    · rw [if_pos h2, bi_f (fun q => Int32.not_le.mpr h2 q.2)]; rfl
    · rw [if_neg h2, bi_t ⟨Int32.not_lt.mp h1, Int32.not_lt.mp h2⟩]; rfl
def wi (v a b : Int32) : Prop := a ≤ v ∧ v ≤ b
theorem e_isStep (v : Int32) : fX6_isStep v = some (bi ((-300 : Int32) ≤ v ∧ v ≤ 300)) := by
  unfold fX6_isStep
  rw [e_isWithin, q_bis, bi_gd]
theorem e_isStep7 (v : Int32) : fX7_isStep v = some (bi ((-300 : Int32) ≤ v ∧ v ≤ 300)) := by
  unfold fX7_isStep
  rw [e_is, q_bis, bi_gd]
