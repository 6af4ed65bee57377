/-! MEMORY: shape (size, slots made, kind of an address, its length) and contents (ints, longs, references by address and place) -/
abbrev q_Z : Type := Nat × Nat × (Nat → Nat) × (Nat → Nat)
abbrev q_C : Type := (Nat → Nat → Int32) × (Nat → Nat → Int64) × (Nat → Nat → Option Nat)
def zS (Z : q_Z) : Nat := Z.1
def zC (Z : q_Z) : Nat := Z.2.1
def zK (Z : q_Z) (a : Nat) : Nat := Z.2.2.1 a
def zL (Z : q_Z) (a : Nat) : Nat := Z.2.2.2 a
def gI (M : q_C) (a k : Nat) : Int32 := M.1 a k
def gJ (M : q_C) (a k : Nat) : Int64 := M.2.1 a k
def gR (M : q_C) (a k : Nat) : Option Nat := M.2.2 a k
def q_u2 {α : Type} (f : Nat → Nat → α) (a k : Nat) (v : α) : Nat → Nat → α := fun b j => if b = a ∧ j = k then v else f b j
def sI (M : q_C) (a k : Nat) (v : Int32) : q_C := (q_u2 M.1 a k v, M.2.1, M.2.2)
def sJ (M : q_C) (a k : Nat) (v : Int64) : q_C := (M.1, q_u2 M.2.1 a k v, M.2.2)
def sR (M : q_C) (a k : Nat) (v : Option Nat) : q_C := (M.1, M.2.1, q_u2 M.2.2 a k v)
/-- a new cell of a kind, n places -/
def zN (Z : q_Z) (kd n : Nat) : q_Z := (Z.1 + 1, Z.2.1 + n, fun q => if q = Z.1 then kd else Z.2.2.1 q, fun q => if q = Z.1 then n else Z.2.2.2 q)
def cN (M : q_C) (a : Nat) : q_C := (fun b j => if b = a then 0 else M.1 b j, fun b j => if b = a then 0 else M.2.1 b j, fun b j => if b = a then none else M.2.2 b j)
/-- ints copied from a0 to a -/
def cP (M : q_C) (a0 a sp dp n : Nat) : q_C := (fun b j => if b = a then va_cpy (M.1 a0) (M.1 a) sp dp n j else M.1 b j, M.2.1, M.2.2)
def q_le (Z Z' : q_Z) : Prop := zS Z ≤ zS Z' ∧ zC Z ≤ zC Z'
theorem q_le.rf {Z : q_Z} : q_le Z Z := ⟨Nat.le_refl _, Nat.le_refl _⟩
theorem q_le.tr {Z Z1 Z2 : q_Z} (h : q_le Z Z1) (h2 : q_le Z1 Z2) : q_le Z Z2 := ⟨Nat.le_trans h.1 h2.1, Nat.le_trans h.2 h2.2⟩
theorem q_le.nw {Z : q_Z} {kd n : Nat} : q_le Z (zN Z kd n) := ⟨Nat.le_succ _, Nat.le_add_right _ _⟩
/-! the words of the decompiled text -/
def q_nm {α β : Sort _} (e : α) (k : α → β) : β := k e
def q_gd {α : Type} (b : Bool) (k : Option α) : Option α := match b with
  | true => k
  | false => none
def q_on {β : Type} (o : Option Nat) (A : β) (B : Nat → β) : β := match o with
  | none => A
  | some a => B a
/-- an index of an array of a kind -/
def q_ok (Z : q_Z) (a kd : Nat) (i : Int32) : Bool := (zK Z a == kd) && (!(decide (i < 0)) && decide (i.toNatClampNeg < zL Z a))
/-- a loop, at most n times -/
def q_it {σ ρ : Type} (f : σ → Option (σ ⊕ ρ)) : Nat → σ → Option ρ
  | 0, _ => none
  | n + 1, x => match f x with
    | none => none
    | some (.inl y) => q_it f n y
    | some (.inr r) => some r
def q_FU : Nat := 100000
theorem q_nmE {α β : Sort _} {e x : α} {k : α → β} {r : β} (ex : x = e) (hf : q_nm e k = r) : k x = r := by subst ex; exact hf
theorem q_gdE {α : Type} {b : Bool} {k : Option α} {r : α} (hf : q_gd b k = some r) : b = true ∧ k = some r := by
  cases b with
  | true => exact ⟨rfl, hf⟩
  | false => cases hf
theorem q_biE {α β : Type} {o : Option α} {k : α → Option β} {r : β} (hf : o.bind k = some r) : ∃ x, o = some x ∧ k x = some r := by
  cases o with
  | none => cases hf
  | some x => exact ⟨x, rfl, hf⟩
theorem q_ifT {c : Prop} {β : Type} {dc : Decidable c} {A B r : β} (h : c) (hf : @ite β c dc A B = r) : A = r := by rw [if_pos h] at hf; exact hf
theorem q_ifF {c : Prop} {β : Type} {dc : Decidable c} {A B r : β} (h : ¬ c) (hf : @ite β c dc A B = r) : B = r := by rw [if_neg h] at hf; exact hf
theorem q_keq {a b : Nat} (h : (a == b) = true) : a = b := by simpa using h
theorem q_okE {Z : q_Z} {a kd : Nat} {i : Int32} (h : q_ok Z a kd i = true) : zK Z a = kd ∧ vp_in i (zL Z a) := by
  unfold q_ok at h
  simp only [Bool.and_eq_true, beq_iff_eq, Bool.not_eq_true', decide_eq_false_iff_not, decide_eq_true_eq] at h
  exact ⟨h.1, fun q => q.elim h.2.1 (fun q => Nat.not_le.mpr h.2.2 q)⟩
theorem q_itE {σ ρ : Type} {f : σ → Option (σ ⊕ ρ)} {n : Nat} {x : σ} {r : ρ} (hf : q_it f n x = some r) : ∃ (k : Nat) (o : σ ⊕ ρ), n = k + 1 ∧ f x = some o ∧ (match o with | .inl y => q_it f k y = some r | .inr z => z = r) := by
  cases n with
  | zero => cases hf
  | succ k =>
    unfold q_it at hf
    cases h : f x with
    | none => rw [h] at hf; cases hf
    | some o =>
      rw [h] at hf
      refine ⟨k, o, rfl, rfl, ?_⟩
      cases o with
      | inl y => exact hf
      | inr z => exact Option.some.inj hf
/-! the tables' words, and the classes -/
def q_gt : List Cond := lw_tbl.filter goodWord
theorem q_gtE {w : Cond} (h : w ∈ q_gt) : w ∈ lw_tbl ∧ goodWord w = true := List.mem_filter.mp h
def q_T (U : State) : Prop :=
  (∀ (A : Array Value) (w : Cond), w ∈ q_gt → w.before A U = true) ∧
  (∀ (a : String) (i : Nat) (b n d h : String), Cond.fieldLinkNest a i b n d h ∈ lw_tbl → va_Nw (.fieldLinkNest a i b n d h) U) ∧
  (∀ (a : String) (i : Nat) (x : MethodName) (h : String), Cond.methodLinkNest a i x h ∈ lw_tbl → va_Nw (.methodLinkNest a i x h) U) ∧ va_AO "CometBench$Sight" U ∧ va_AO "CometBench$Way" U
theorem q_T.warm {s U : State} (h : q_T s) (hW : s.WarmedH U.vm) : q_T U :=
  ⟨fun A w hw => word_at hW (good_of_word (q_gtE hw).2) (h.1 #[] w hw), fun a i b n d k hw => va_Nw.warmF hW (h.2.1 a i b n d k hw), fun a i x k hw => va_Nw.warmM hW (h.2.2.1 a i x k hw), h.2.2.2.1.moved hW.alike, h.2.2.2.2.moved hW.alike⟩
theorem q_T.same {s U : State} (h : q_T s) (hv : s.vm = U.vm) : q_T U := h.warm (by rw [← hv]; exact State.WarmedH.refl s)
abbrev q_tys (cA : Nat → ClassId) : List (ClassId × FieldType) := [(cA 1, .int), (cA 2, .long), (cA 3, .object "CometBench$Sight"), (cA 4, .object "CometBench$Way")]
def q_K (D : va_G) (cA : Nat → ClassId) (U : State) : Prop := va_K D vwCl (q_tys cA) U
def q_ty (ci : Nat) : Nat → FieldType := match ci with
  | 0 => tyX0
  | 1 => tyX1
  | 2 => tyX2
  | 3 => tyX3
  | 4 => tyX4
  | 5 => tyX5
  | 6 => tyX6
  | _ => tyX7
def q_fv (ty : FieldType) (i : Int32) (j : Int64) (r : Option Nat) : Value := match ty with
  | .long => .long j
  | .int => .int i
  | .boolean => .int i
  | _ => va_rf r
/-- what an address holds -/
def q_at (D : va_G) (cA : Nat → ClassId) (Z : q_Z) (M : q_C) (H : Heap) (a : Nat) : Prop :=
  (zK Z a = 1 → H[a]? = some (arrV (cA 1) (zL Z a) (fun j => .int (M.1 a j)))) ∧
  (zK Z a = 2 → H[a]? = some (arrV (cA 2) (zL Z a) (fun j => .long (M.2.1 a j)))) ∧
  (∀ k, k = 3 ∨ k = 4 → zK Z a = k → H[a]? = some (arrV (cA k) (zL Z a) (fun j => va_rf (M.2.2 a j)))) ∧
  (∀ (ci : Nat) (r : vw_C), vwCl[ci]? = some r → zK Z a = 10 + ci → t_OB a (D.1 ci) r.2.2 (D.2 ci) H (fun k => q_fv (q_ty ci k) (M.1 a k) (M.2.1 a k) (M.2.2 a k)))
def q_Hd (D : va_G) (cA : Nat → ClassId) (z0 : Nat) (Z : q_Z) (M : q_C) (H : Heap) : Prop :=
  H.size = zS Z ∧ (∀ a, zK Z a ≠ 0 → z0 ≤ a ∧ a < zS Z) ∧ z0 ≤ zS Z ∧ ∀ a, q_at D cA Z M H a
def q_Hh (D : va_G) (cA : Nat → ClassId) (z0 : Nat) (s : State) (Z : q_Z) (M : q_C) (H : Heap) (locs : List Loc) : Prop :=
  q_Hd D cA z0 Z M H ∧ va_S (fun q => z0 ≤ q) s.heap H locs
theorem q_at.kept {D : va_G} {cA : Nat → ClassId} {Z Z' : q_Z} {M M' : q_C} {H H' : Heap} {a : Nat} (h : q_at D cA Z M H a) (hK : zK Z' a = zK Z a) (hL : zL Z' a = zL Z a) (h1 : M'.1 a = M.1 a) (h2 : M'.2.1 a = M.2.1 a) (h3 : M'.2.2 a = M.2.2 a) (hH : H'[a]? = H[a]?) : q_at D cA Z' M' H' a := by
  unfold q_at at h ⊢
  rw [hK, hL, hH, h1, h2, h3]
  exact ⟨h.1, h.2.1, h.2.2.1, fun ci r hc hk => (h.2.2.2 ci r hc hk).kept hH⟩
theorem q_Hh.put {D : va_G} {cA : Nat → ClassId} {z0 : Nat} {s : State} {Z : q_Z} {M M' : q_C} {H H' : Heap} {locs : List Loc} {a k : Nat} (h : q_Hh D cA z0 s Z M H locs) (hk : zK Z a ≠ 0) (hM : ∀ b, b ≠ a → M'.1 b = M.1 b ∧ M'.2.1 b = M.2.1 b ∧ M'.2.2 b = M.2.2 b)
    (z : H'.size = H.size) (o : ∀ q : Nat, q ≠ a → H'[q]? = H[q]?) (ha : q_at D cA Z M' H' a) : q_Hh D cA z0 s Z M' H' (locs ++ [⟨a, k⟩]) := by
  obtain ⟨⟨h1, h2, h3, h4⟩, hS⟩ := h
  refine ⟨⟨by rw [z]; exact h1, h2, h3, fun b => ?_⟩, hS.put z o (h2 a hk).1⟩
  by_cases hb : b = a
  · subst hb; exact ha
  · obtain ⟨m1, m2, m3⟩ := hM b hb
    exact (h4 b).kept rfl rfl m1 m2 m3 (o b hb)
theorem q_u2s {α : Type} (f : Nat → Nat → α) (a k : Nat) (v : α) : q_u2 f a k v a k = v := by simp [q_u2]
theorem q_u2k {α : Type} (f : Nat → Nat → α) (a k : Nat) (v : α) {j : Nat} (h : j ≠ k) : q_u2 f a k v a j = f a j := by simp [q_u2, h]
theorem q_u2a {α : Type} (f : Nat → Nat → α) (a k : Nat) (v : α) {b : Nat} (h : b ≠ a) : q_u2 f a k v b = f b := by funext j; simp [q_u2, h]
theorem q_u2f {α : Type} (f : Nat → Nat → α) (a k : Nat) (v : α) (mk : α → Value) : (fun j => mk (q_u2 f a k v a j)) = updV (fun j => mk (f a j)) k (mk v) := by
  funext j
  by_cases h : j = k
  · subst h; simp [q_u2, updV]
  · simp [q_u2, updV, h]
set_option maxRecDepth 100000 in
theorem q_in : ∀ (ci : Nat) (r : vw_C), vwCl[ci]? = some r → ∀ w ∈ u_ws r.1 r.2.1 r.2.2, w ∈ q_gt := by
  intro ci r h
  match ci, h with
  | 0, h => cases h; decide +kernel
  | 1, h => cases h; decide +kernel
  | 2, h => cases h; decide +kernel
  | 3, h => cases h; decide +kernel
  | 4, h => cases h; decide +kernel
  | 5, h => cases h; decide +kernel
  | 6, h => cases h; decide +kernel
  | 7, h => cases h; decide +kernel
  | k + 8, h => simp [vwCl] at h
theorem q_tyk : ∀ (ci : Nat) (r : vw_C), vwCl[ci]? = some r → ∀ k, k < r.2.2 → parseFieldDescriptor (r.2.1 k).2.2.1 = some (q_ty ci k) := by
  intro ci r h
  match ci, h with
  | 0, h => cases h; exact tyX0_ok
  | 1, h => cases h; exact tyX1_ok
  | 2, h => cases h; exact tyX2_ok
  | 3, h => cases h; exact tyX3_ok
  | 4, h => cases h; exact tyX4_ok
  | 5, h => cases h; exact tyX5_ok
  | 6, h => cases h; exact tyX6_ok
  | 7, h => cases h; exact tyX7_ok
  | k + 8, h => simp [vwCl] at h
theorem q_nmk : ∀ (ci : Nat) (r : vw_C), vwCl[ci]? = some r → ∀ a, a < r.2.2 → ∀ b, b < r.2.2 → a ≠ b → (r.2.1 a).2.1 ≠ (r.2.1 b).2.1 := by
  intro ci r h
  match ci, h with
  | 0, h => cases h; exact nmX0
  | 1, h => cases h; exact nmX1
  | 2, h => cases h; exact nmX2
  | 3, h => cases h; exact nmX3
  | 4, h => cases h; exact nmX4
  | 5, h => cases h; exact nmX5
  | 6, h => cases h; exact nmX6
  | 7, h => cases h; exact nmX7
  | k + 8, h => simp [vwCl] at h
theorem q_dv : ∀ (ci : Nat) (r : vw_C), vwCl[ci]? = some r → ∀ k, k < r.2.2 → defaultValue (q_ty ci k) = q_fv (q_ty ci k) 0 0 none := by
  intro ci r h
  match ci, h with
  | 0, h => cases h; decide +kernel
  | 1, h => cases h; decide +kernel
  | 2, h => cases h; decide +kernel
  | 3, h => cases h; decide +kernel
  | 4, h => cases h; decide +kernel
  | 5, h => cases h; decide +kernel
  | 6, h => cases h; decide +kernel
  | 7, h => cases h; decide +kernel
  | k + 8, h => simp [vwCl] at h
section QM
variable {p : Program} {l : Launch} {e : Env} {R : Room} {s : State} {m : MethodId} {args : Array Value} {below : List Frame} {meth : Method} {c : Code} {H : Heap} {locs : List Loc} {cells slots : Nat} {Q : State → Prop}
variable {cc : ByteArray} {pc : Nat} {ls : Array Slot} {rest : List Value} {D : va_G} {cA : Nat → ClassId} {z0 a : Nat} {Z : q_Z} {M : q_C} {own : String} {index : Nat}
theorem q_hts (hT : q_T s) : ∀ w ∈ q_gt, w.before args s = true := fun w hw => hT.1 args w hw
theorem q_get {v : Value} (hx : p.tables.exec = Jvm.exec) (hb : c.code = cc) (hT : q_T s) (hown : s.vm.findClass own = some m.cls) (hK : q_K D cA s) (hH : q_Hh D cA z0 s Z M H locs) {ci : Nat} {r : vw_C} (hc : vwCl[ci]? = some r) (k : Nat) (hkN : k < r.2.2)
    (hlink : Cond.fieldLink own index (r.2.1 k).1 (r.2.1 k).2.1 (r.2.1 k).2.2.1 ∈ q_gt) (hk : zK Z a = 10 + ci) (hv : q_fv (q_ty ci k) (M.1 a k) (M.2.1 a k) (M.2.2 a k) = v) (hdg : decode cc pc = .ok (.getfield index, 3))
    (kk : W p l e R s m args below meth c H locs cells slots Q (F0 m (pc + 3) ls (v :: rest))) : W p l e R s m args below meth c H locs cells slots Q (F0 m pc ls (.ref a :: rest)) := by
  obtain ⟨cell, q1, q2, q3, q4⟩ := (hH.1.2.2.2 a).2.2.2 ci r hc hk
  obtain ⟨hS, hfc, kC, hkC, hkind⟩ := hK.1 ci _ hc
  obtain ⟨cf, kf, fi, f, hi, hsl⟩ := hS k hkN
  refine W.getf hx hb hown (q_hts hT _ hlink) hi (u_facts hfc hkC (u_lays (q_hts (args := args) hT) (q_in ci r hc) hkN) hi).1 q1 (by rw [q3]; exact fun h => by cases h) (v := v) ?_ rfl rfl hdg kk
  rw [hsl, q4 k hkN]
  exact congrArg some hv
theorem q_getN {v : Value} {host : String} (hx : p.tables.exec = Jvm.exec) (hb : c.code = cc) (hT : q_T s) (hown : s.vm.findClass own = some m.cls) (hK : q_K D cA s) (hH : q_Hh D cA z0 s Z M H locs) {ci : Nat} {r : vw_C} (hc : vwCl[ci]? = some r) (k : Nat) (hkN : k < r.2.2)
    (hlink : Cond.fieldLinkNest own index (r.2.1 k).1 (r.2.1 k).2.1 (r.2.1 k).2.2.1 host ∈ lw_tbl) (hk : zK Z a = 10 + ci) (hv : q_fv (q_ty ci k) (M.1 a k) (M.2.1 a k) (M.2.2 a k) = v) (hdg : decode cc pc = .ok (.getfield index, 3))
    (kk : W p l e R s m args below meth c H locs cells slots Q (F0 m (pc + 3) ls (v :: rest))) : W p l e R s m args below meth c H locs cells slots Q (F0 m pc ls (.ref a :: rest)) := by
  obtain ⟨cell, q1, q2, q3, q4⟩ := (hH.1.2.2.2 a).2.2.2 ci r hc hk
  obtain ⟨hS, hfc, kC, hkC, hkind⟩ := hK.1 ci _ hc
  obtain ⟨cf, kf, fi, f, hi, hsl⟩ := hS k hkN
  refine va_Wgetf hx hb hown (va_Nw.use rfl (hT.2.1 _ _ _ _ _ _ hlink)) hi (u_facts hfc hkC (u_lays (q_hts (args := args) hT) (q_in ci r hc) hkN) hi).1 q1 (by rw [q3]; exact fun h => by cases h) (v := v) ?_ rfl rfl hdg kk
  rw [hsl, q4 k hkN]
  exact congrArg some hv
theorem q_sep (hT : q_T s) (hK : q_K D cA s) {ci : Nat} {r : vw_C} (hc : vwCl[ci]? = some r) : ∀ x y, x < r.2.2 → y < r.2.2 → x ≠ y → (D.2 ci) x ≠ (D.2 ci) y :=
  va_apart (own := "") (q_hts (args := #[]) hT) (q_in ci r hc) (q_ty ci) (q_tyk ci r hc) (q_nmk ci r hc) hK hc
theorem q_put {v : Value} {M' : q_C} (hx : p.tables.exec = Jvm.exec) (hb : c.code = cc) (hT : q_T s) (hown : s.vm.findClass own = some m.cls) (hK : q_K D cA s) (hH : q_Hh D cA z0 s Z M H locs) {ci : Nat} {r : vw_C} (hc : vwCl[ci]? = some r) (k : Nat) (hkN : k < r.2.2)
    (hlink : Cond.fieldLink own index (r.2.1 k).1 (r.2.1 k).2.1 (r.2.1 k).2.2.1 ∈ q_gt) (hfin : (r.2.1 k).2.2.2 = false) (hk : zK Z a = 10 + ci) (hn : narrow (q_ty ci k) v = v) (hfit : fits (q_ty ci k) v = true)
    (hM : ∀ b, b ≠ a → M'.1 b = M.1 b ∧ M'.2.1 b = M.2.1 b ∧ M'.2.2 b = M.2.2 b) (hv : ∀ j, j < r.2.2 → updV (fun k => q_fv (q_ty ci k) (M.1 a k) (M.2.1 a k) (M.2.2 a k)) k v j = q_fv (q_ty ci j) (M'.1 a j) (M'.2.1 a j) (M'.2.2 a j)) (hdg : decode cc pc = .ok (.putfield index, 3))
    (kk : ∀ (H1 : Heap) (locs1 : List Loc), q_Hh D cA z0 s Z M' H1 locs1 → W p l e R s m args below meth c H1 locs1 cells slots Q (F0 m (pc + 3) ls rest)) : W p l e R s m args below meth c H locs cells slots Q (F0 m pc ls (v :: .ref a :: rest)) := by
  have hap := q_sep hT hK hc
  obtain ⟨cell, q1, q2, q3, q4⟩ := (hH.1.2.2.2 a).2.2.2 ci r hc hk
  obtain ⟨hS, hfc, kC, hkC, hkind⟩ := hK.1 ci _ hc
  obtain ⟨cf, kf, fi, f, hi, hsl⟩ := hS k hkN
  have hlay := q_hts (args := args) hT _ (q_in ci r hc _ (u_in_lay hkN))
  unfold u_lay at hlay
  rw [if_neg (by rw [hfin]; decide)] at hlay
  have hst := (u_facts hfc hkC (u_lays (q_hts (args := args) hT) (q_in ci r hc) hkN) hi).1
  have h6 := u_store hfc hkC hkind hlay hi (q_tyk ci r hc k hkN) hn hfit
  refine W.putK hx hb (f := f) ⟨hown, q_hts hT _ hlink, ⟨_, _, _, hi⟩, hst⟩ (by rw [q2]; exact h6) q1 q3 (by rw [hsl]; exact k2_hasslot (q4 k hkN)) rfl rfl hdg fun H' e1 e2 e3 => ?_
  rw [hsl] at e1 ⊢
  refine kk H' _ (hH.put (by omega) hM e2 e3 ⟨fun h => by omega, fun h => by omega, fun k2 h1 h2 => by omega, fun ci2 r2 hc2 hk2 => ?_⟩)
  obtain rfl : ci2 = ci := by omega
  cases hc.symm.trans hc2
  exact t_OB.to (V := updV (fun k => q_fv (q_ty ci2 k) (M.1 a k) (M.2.1 a k) (M.2.2 a k)) k v) ⟨_, e1, q2, q3, t_set q4 hap hkN v⟩ hv
theorem q_putN {v : Value} {M' : q_C} {host : String} (hx : p.tables.exec = Jvm.exec) (hb : c.code = cc) (hT : q_T s) (hown : s.vm.findClass own = some m.cls) (hK : q_K D cA s) (hH : q_Hh D cA z0 s Z M H locs) {ci : Nat} {r : vw_C} (hc : vwCl[ci]? = some r) (k : Nat) (hkN : k < r.2.2)
    (hlink : Cond.fieldLinkNest own index (r.2.1 k).1 (r.2.1 k).2.1 (r.2.1 k).2.2.1 host ∈ lw_tbl) (hfin : (r.2.1 k).2.2.2 = false) (hk : zK Z a = 10 + ci) (hn : narrow (q_ty ci k) v = v) (hfit : fits (q_ty ci k) v = true)
    (hM : ∀ b, b ≠ a → M'.1 b = M.1 b ∧ M'.2.1 b = M.2.1 b ∧ M'.2.2 b = M.2.2 b) (hv : ∀ j, j < r.2.2 → updV (fun k => q_fv (q_ty ci k) (M.1 a k) (M.2.1 a k) (M.2.2 a k)) k v j = q_fv (q_ty ci j) (M'.1 a j) (M'.2.1 a j) (M'.2.2 a j)) (hdg : decode cc pc = .ok (.putfield index, 3))
    (kk : ∀ (H1 : Heap) (locs1 : List Loc), q_Hh D cA z0 s Z M' H1 locs1 → W p l e R s m args below meth c H1 locs1 cells slots Q (F0 m (pc + 3) ls rest)) : W p l e R s m args below meth c H locs cells slots Q (F0 m pc ls (v :: .ref a :: rest)) := by
  have hap := q_sep hT hK hc
  obtain ⟨cell, q1, q2, q3, q4⟩ := (hH.1.2.2.2 a).2.2.2 ci r hc hk
  obtain ⟨hS, hfc, kC, hkC, hkind⟩ := hK.1 ci _ hc
  obtain ⟨cf, kf, fi, f, hi, hsl⟩ := hS k hkN
  have hlay := q_hts (args := args) hT _ (q_in ci r hc _ (u_in_lay hkN))
  unfold u_lay at hlay
  rw [if_neg (by rw [hfin]; decide)] at hlay
  have hst := (u_facts hfc hkC (u_lays (q_hts (args := args) hT) (q_in ci r hc) hkN) hi).1
  have h6 := u_store hfc hkC hkind hlay hi (q_tyk ci r hc k hkN) hn hfit
  refine va_WputK hx hb (f := f) hown (va_Nw.use rfl (hT.2.1 _ _ _ _ _ _ hlink)) hi hst (by rw [q2]; exact h6) q1 q3 (by rw [hsl]; exact k2_hasslot (q4 k hkN)) rfl rfl hdg fun H' e1 e2 e3 => ?_
  rw [hsl] at e1 ⊢
  refine kk H' _ (hH.put (by omega) hM e2 e3 ⟨fun h => by omega, fun h => by omega, fun k2 h1 h2 => by omega, fun ci2 r2 hc2 hk2 => ?_⟩)
  obtain rfl : ci2 = ci := by omega
  cases hc.symm.trans hc2
  exact t_OB.to (V := updV (fun k => q_fv (q_ty ci2 k) (M.1 a k) (M.2.1 a k) (M.2.2 a k)) k v) ⟨_, e1, q2, q3, t_set q4 hap hkN v⟩ hv
theorem q_putF {v : Value} {M' : q_C} (hx : p.tables.exec = Jvm.exec) (hb : c.code = cc) (hT : q_T s) (hown : s.vm.findClass own = some m.cls) (hK : q_K D cA s) (hH : q_Hh D cA z0 s Z M H locs) {ci : Nat} {r : vw_C} (hc : vwCl[ci]? = some r) (k : Nat) (hkN : k < r.2.2)
    (hlink : Cond.fieldLink own index (r.2.1 k).1 (r.2.1 k).2.1 (r.2.1 k).2.2.1 ∈ q_gt) (hfin : (r.2.1 k).2.2.2 = true) (hin2 : meth.name = "<init>") (hdecl : (r.2.1 k).1 = own) (hk : zK Z a = 10 + ci) (hn : narrow (q_ty ci k) v = v) (hfit : fits (q_ty ci k) v = true)
    (hM : ∀ b, b ≠ a → M'.1 b = M.1 b ∧ M'.2.1 b = M.2.1 b ∧ M'.2.2 b = M.2.2 b) (hv : ∀ j, j < r.2.2 → updV (fun k => q_fv (q_ty ci k) (M.1 a k) (M.2.1 a k) (M.2.2 a k)) k v j = q_fv (q_ty ci j) (M'.1 a j) (M'.2.1 a j) (M'.2.2 a j)) (hdg : decode cc pc = .ok (.putfield index, 3))
    (kk : ∀ (H1 : Heap) (locs1 : List Loc), q_Hh D cA z0 s Z M' H1 locs1 → W p l e R s m args below meth c H1 locs1 cells slots Q (F0 m (pc + 3) ls rest)) : W p l e R s m args below meth c H locs cells slots Q (F0 m pc ls (v :: .ref a :: rest)) := by
  have hap := q_sep hT hK hc
  obtain ⟨cell, q1, q2, q3, q4⟩ := (hH.1.2.2.2 a).2.2.2 ci r hc hk
  obtain ⟨hS, hfc, kC, hkC, hkind⟩ := hK.1 ci _ hc
  obtain ⟨cf, kf, fi, f, hi, hsl⟩ := hS k hkN
  have hlay := q_hts (args := args) hT _ (q_in ci r hc _ (u_in_lay hkN))
  unfold u_lay at hlay
  rw [if_pos hfin] at hlay
  have hst := (u_facts hfc hkC (u_lays (q_hts (args := args) hT) (q_in ci r hc) hkN) hi).1
  have hcf : m.cls = cf := by
    obtain ⟨_, _, c', _, _, _, -, -, hf', -, -, -, hown2, -⟩ := Cond.laysFinal_spec hlay
    have e1 : c' = cf := by have := hi.symm.trans hf'; simp at this; exact this.1.symm
    rw [hdecl] at hown2
    rw [← e1]; exact Option.some.inj (hown.symm.trans hown2)
  have h6 := u_fits hfc hkC hkind (Or.inr hlay) hi (q_tyk ci r hc k hkN) hn hfit
  refine W.putFinK hx hb hown (q_hts hT _ hlink) hi hst hcf hin2 (by rw [q2]; exact h6) q1 q3 (by rw [hsl]; exact k2_hasslot (q4 k hkN)) rfl rfl hdg fun H' e1 e2 e3 => ?_
  rw [hsl] at e1 ⊢
  refine kk H' _ (hH.put (by omega) hM e2 e3 ⟨fun h => by omega, fun h => by omega, fun k2 h1 h2 => by omega, fun ci2 r2 hc2 hk2 => ?_⟩)
  obtain rfl : ci2 = ci := by omega
  cases hc.symm.trans hc2
  exact t_OB.to (V := updV (fun k => q_fv (q_ty ci2 k) (M.1 a k) (M.2.1 a k) (M.2.2 a k)) k v) ⟨_, e1, q2, q3, t_set q4 hap hkN v⟩ hv
end QM
