def q_b2 {α β γ : Type} (o : Option (α × β)) (k : α → β → Option γ) : Option γ := o.bind fun w => k w.1 w.2
def q_b3 {α β γ δ : Type} (o : Option (α × β × γ)) (k : α → β → γ → Option δ) : Option δ := o.bind fun w => k w.1 w.2.1 w.2.2
def q_sm {α β γ : Type} (x : α ⊕ β) (f : α → γ) (g : β → γ) : γ := match x with
  | .inl y => f y
  | .inr y => g y
theorem q_b2E {α β γ : Type} {o : Option (α × β)} {k : α → β → Option γ} {r : γ} (hf : q_b2 o k = some r) : ∃ x y, o = some (x, y) ∧ k x y = some r := by
  obtain ⟨⟨x, y⟩, h1, h2⟩ := q_biE hf
  exact ⟨x, y, h1, h2⟩
theorem q_b3E {α β γ δ : Type} {o : Option (α × β × γ)} {k : α → β → γ → Option δ} {r : δ} (hf : q_b3 o k = some r) : ∃ x y z, o = some (x, y, z) ∧ k x y z = some r := by
  obtain ⟨⟨x, y, z⟩, h1, h2⟩ := q_biE hf
  exact ⟨x, y, z, h1, h2⟩
theorem q_smL {α β γ : Type} {x : α} {f : α → γ} {g : β → γ} {r : γ} (hf : q_sm (.inl x) f g = r) : f x = r := hf
theorem q_smR {α β γ : Type} {x : β} {f : α → γ} {g : β → γ} {r : γ} (hf : q_sm (.inr x) f g = r) : g x = r := hf
theorem q_smC {α β γ : Type} {x : α ⊕ β} {f : α → γ} {g : β → γ} {r : γ} (hf : q_sm x f g = r) : (∃ y, x = .inl y ∧ f y = r) ∨ (∃ y, x = .inr y ∧ g y = r) := by
  cases x with
  | inl y => exact Or.inl ⟨y, rfl, hf⟩
  | inr y => exact Or.inr ⟨y, rfl, hf⟩
theorem q_ifC {c : Prop} {β : Type} {dc : Decidable c} {A B r : β} (hf : @ite β c dc A B = r) : A = r ∨ B = r := by
  by_cases h : c
  · exact Or.inl (q_ifT h hf)
  · exact Or.inr (q_ifF h hf)
theorem q_onC {β : Type} {o : Option Nat} {A : β} {B : Nat → β} {r : β} (hf : q_on o A B = r) : A = r ∨ ∃ a, B a = r := by
  cases o with
  | none => exact Or.inl hf
  | some a => exact Or.inr ⟨a, hf⟩
theorem q_itmo {σ ρ : Type} (f : σ → Option (σ ⊕ ρ)) (zs : σ → q_Z) (zr : ρ → q_Z) (h : ∀ x o, f x = some o → q_le (zs x) (q_sm o zs zr)) : ∀ (n : Nat) (x : σ) (r : ρ), q_it f n x = some r → q_le (zs x) (zr r) := by
  intro n
  induction n with
  | zero => intro x r hf; cases hf
  | succ n ih =>
    intro x r hf
    obtain ⟨k, o, hk, h1, h2⟩ := q_itE hf
    cases hk
    have h3 := h x o h1
    cases o with
    | inl y => exact h3.tr (ih y r h2)
    | inr z => cases h2; exact h3
theorem q_bd {Zi Z Zo : q_Z} {x y : Nat} (hi : q_le Zi Z) (hz : q_le Z Zo) (hb : zS Zo - zS Zi ≤ x ∧ zC Zo - zC Zi ≤ y) : zS Z - zS Zi ≤ x ∧ zC Z - zC Zi ≤ y := by
  obtain ⟨a1, a2⟩ := hi
  obtain ⟨b1, b2⟩ := hz
  omega
/-- a step of the count: from Z to Z1 -/
theorem q_bs {Zi Z Z1 Zo : q_Z} {x y : Nat} (hi : q_le Zi Z) (h1 : q_le Z Z1) (hz : q_le Z1 Zo) (hb : zS Zo - zS Zi ≤ x ∧ zC Zo - zC Zi ≤ y) : (zS Z - zS Zi) + (zS Z1 - zS Z) ≤ x ∧ (zC Z - zC Zi) + (zC Z1 - zC Z) ≤ y := by
  obtain ⟨a1, a2⟩ := hi
  obtain ⟨b1, b2⟩ := hz
  obtain ⟨c1, c2⟩ := h1
  omega
theorem q_be1 {Zi Z Z1 : q_Z} (hi : q_le Zi Z) (h1 : q_le Z Z1) : (zS Z - zS Zi) + (zS Z1 - zS Z) = zS Z1 - zS Zi := by
  have := hi.1
  have := h1.1
  omega
theorem q_be2 {Zi Z Z1 : q_Z} (hi : q_le Zi Z) (h1 : q_le Z Z1) : (zC Z - zC Zi) + (zC Z1 - zC Z) = zC Z1 - zC Zi := by
  have := hi.2
  have := h1.2
  omega
theorem q_bn1 {Zi Z : q_Z} {kd n : Nat} (hi : q_le Zi Z) : (zS Z - zS Zi) + 1 = zS (zN Z kd n) - zS Zi := by
  have := hi.1
  have : zS (zN Z kd n) = zS Z + 1 := rfl
  omega
theorem q_bn2 {Zi Z : q_Z} {kd n : Nat} (hi : q_le Zi Z) : (zC Z - zC Zi) + n = zC (zN Z kd n) - zC Zi := by
  have := hi.2
  have : zC (zN Z kd n) = zC Z + n := rfl
  omega
theorem q_nwb {Zi Z Zo : q_Z} {kd n x y : Nat} (hi : q_le Zi Z) (hz : q_le (zN Z kd n) Zo) (hb : zS Zo - zS Zi ≤ x ∧ zC Zo - zC Zi ≤ y) : (zS Z - zS Zi) + 1 ≤ x ∧ (zC Z - zC Zi) + n ≤ y := by
  rw [q_bn1 (kd := kd) (n := n) hi, q_bn2 (kd := kd) (n := n) hi]
  exact q_bd (hi.tr q_le.nw) hz hb
theorem q_wc {p : Program} {l : Launch} {e : Env} {R : Room} {s : State} {m : MethodId} {args : Array Value} {below : List Frame} {meth : Method} {c : Code} {H : Heap} {locs : List Loc} {cells slots c1 s1 : Nat} {Q : State → Prop} {g : JFrame} (hc : cells = c1) (hs : slots = s1) (kk : W p l e R s m args below meth c H locs c1 s1 Q g) : W p l e R s m args below meth c H locs cells slots Q g := by
  subst hc; subst hs; exact kk
theorem q_rfc (x : Option Nat) : (va_rf x).category = 1 := by cases x <;> rfl
section QL
variable {p : Program} {l : Launch} {e : Env} {R : Room} {s : State} {m : MethodId} {args : Array Value} {below : List Frame} {meth : Method} {c : Code} {H : Heap} {locs : List Loc} {cells slots : Nat} {Q : State → Prop}
variable {cc : ByteArray} {pc : Nat} {ls : Array Slot} {rest : List Value} {D : va_G} {cA : Nat → ClassId} {z0 a : Nat} {Z : q_Z} {M : q_C} {own : String} {index nL : Nat} {rt : Option FieldType} {nm : String}
theorem q_lcmp_lt {x y : Int64} {off : Int} {tgt pc1 : Nat} (hx : p.tables.exec = Jvm.exec) (hb : c.code = cc) (hd1 : decode cc pc = .ok (.lcmp, 1)) (hp : pc + 1 = pc1) (hd2 : decode cc pc1 = .ok (.ifCond .lt off, 3)) (ht : (pc1 : Int) + off = (tgt : Int)) (kt : x < y → W p l e R s m args below meth c H locs cells slots Q (F0 m tgt ls rest)) (kf : ¬ (x < y) → W p l e R s m args below meth c H locs cells slots Q (F0 m (pc1 + 3) ls rest)) : W p l e R s m args below meth c H locs cells slots Q (F0 m pc ls (.long y :: .long x :: rest)) := by
  subst hp
  refine W.lcmp hx hb hd1 (lv_if_lt hx hb hd2 ht (fun h => kt ((lg_cmp_lt x y).mp h)) (fun h => kf (fun q => h ((lg_cmp_lt x y).mpr q))))
theorem q_lcmp_ge {x y : Int64} {off : Int} {tgt pc1 : Nat} (hx : p.tables.exec = Jvm.exec) (hb : c.code = cc) (hd1 : decode cc pc = .ok (.lcmp, 1)) (hp : pc + 1 = pc1) (hd2 : decode cc pc1 = .ok (.ifCond .ge off, 3)) (ht : (pc1 : Int) + off = (tgt : Int)) (kt : y ≤ x → W p l e R s m args below meth c H locs cells slots Q (F0 m tgt ls rest)) (kf : ¬ (y ≤ x) → W p l e R s m args below meth c H locs cells slots Q (F0 m (pc1 + 3) ls rest)) : W p l e R s m args below meth c H locs cells slots Q (F0 m pc ls (.long y :: .long x :: rest)) := by
  subst hp
  refine W.lcmp hx hb hd1 (lv_if_ge hx hb hd2 ht (fun h => kt ((lg_cmp_ge x y).mp h)) (fun h => kf (fun q => h ((lg_cmp_ge x y).mpr q))))
theorem q_lcmp_gt {x y : Int64} {off : Int} {tgt pc1 : Nat} (hx : p.tables.exec = Jvm.exec) (hb : c.code = cc) (hd1 : decode cc pc = .ok (.lcmp, 1)) (hp : pc + 1 = pc1) (hd2 : decode cc pc1 = .ok (.ifCond .gt off, 3)) (ht : (pc1 : Int) + off = (tgt : Int)) (kt : y < x → W p l e R s m args below meth c H locs cells slots Q (F0 m tgt ls rest)) (kf : ¬ (y < x) → W p l e R s m args below meth c H locs cells slots Q (F0 m (pc1 + 3) ls rest)) : W p l e R s m args below meth c H locs cells slots Q (F0 m pc ls (.long y :: .long x :: rest)) := by
  subst hp
  refine W.lcmp hx hb hd1 (lv_if_gt hx hb hd2 ht (fun h => kt ((lg_cmp_gt x y).mp h)) (fun h => kf (fun q => h ((lg_cmp_gt x y).mpr q))))
theorem q_lcmp_le {x y : Int64} {off : Int} {tgt pc1 : Nat} (hx : p.tables.exec = Jvm.exec) (hb : c.code = cc) (hd1 : decode cc pc = .ok (.lcmp, 1)) (hp : pc + 1 = pc1) (hd2 : decode cc pc1 = .ok (.ifCond .le off, 3)) (ht : (pc1 : Int) + off = (tgt : Int)) (kt : x ≤ y → W p l e R s m args below meth c H locs cells slots Q (F0 m tgt ls rest)) (kf : ¬ (x ≤ y) → W p l e R s m args below meth c H locs cells slots Q (F0 m (pc1 + 3) ls rest)) : W p l e R s m args below meth c H locs cells slots Q (F0 m pc ls (.long y :: .long x :: rest)) := by
  subst hp
  refine W.lcmp hx hb hd1 (lv_if_le hx hb hd2 ht (fun h => kt ((lg_cmp_le x y).mp h)) (fun h => kf (fun q => h ((lg_cmp_le x y).mpr q))))
theorem q_lcmp_eq {x y : Int64} {off : Int} {tgt pc1 : Nat} (hx : p.tables.exec = Jvm.exec) (hb : c.code = cc) (hd1 : decode cc pc = .ok (.lcmp, 1)) (hp : pc + 1 = pc1) (hd2 : decode cc pc1 = .ok (.ifCond .eq off, 3)) (ht : (pc1 : Int) + off = (tgt : Int)) (kt : x = y → W p l e R s m args below meth c H locs cells slots Q (F0 m tgt ls rest)) (kf : ¬ (x = y) → W p l e R s m args below meth c H locs cells slots Q (F0 m (pc1 + 3) ls rest)) : W p l e R s m args below meth c H locs cells slots Q (F0 m pc ls (.long y :: .long x :: rest)) := by
  subst hp
  refine W.lcmp hx hb hd1 (lv_if_eq hx hb hd2 ht (fun h => kt ((lg_cmp_eq x y).mp h)) (fun h => kf (fun q => h ((lg_cmp_eq x y).mpr q))))
theorem q_lcmp_ne {x y : Int64} {off : Int} {tgt pc1 : Nat} (hx : p.tables.exec = Jvm.exec) (hb : c.code = cc) (hd1 : decode cc pc = .ok (.lcmp, 1)) (hp : pc + 1 = pc1) (hd2 : decode cc pc1 = .ok (.ifCond .ne off, 3)) (ht : (pc1 : Int) + off = (tgt : Int)) (kt : ¬ x = y → W p l e R s m args below meth c H locs cells slots Q (F0 m tgt ls rest)) (kf : x = y → W p l e R s m args below meth c H locs cells slots Q (F0 m (pc1 + 3) ls rest)) : W p l e R s m args below meth c H locs cells slots Q (F0 m pc ls (.long y :: .long x :: rest)) := by
  subst hp
  refine W.lcmp hx hb hd1 (lv_if_ne hx hb hd2 ht (fun h => kt (fun q => h ((lg_cmp_eq x y).mpr q))) (fun h => kf ((lg_cmp_eq x y).mp h)))
end QL
