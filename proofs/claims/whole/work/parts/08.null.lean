section QN
variable {p : Program} {l : Launch} {e : Env} {R : Room} {s : State} {m : MethodId} {args : Array Value} {below : List Frame} {meth : Method} {c : Code} {H : Heap} {locs : List Loc} {cells slots : Nat} {Q : State → Prop}
variable {cc : ByteArray} {pc : Nat} {ls : Array Slot} {rest : List Value} {D : va_G} {cA : Nat → ClassId} {z0 a : Nat} {Z : q_Z} {M : q_C} {own : String} {index nL : Nat} {rt : Option FieldType} {nm : String}
theorem q_aret {v : Option Nat} {C : String} (E : q_E p s m meth c cc nL own (some (.object C)) nm D cA) (hH : q_Hh D cA z0 s Z M H locs) (hdg : decode cc pc = .ok (.areturn, 1)) : W p l e R s m args below meth c H locs cells slots (MQ below (q_Q D cA z0 (some (va_rf v)) Z M) args s cells slots (fun q => z0 ≤ q)) (F0 m pc ls [va_rf v]) :=
  W.aret (v := va_rf v) E.1 E.2.1 E.2.2.2.2.1 (Or.inl ⟨C, rfl⟩) (va_rf_or v) (fun t ht hW => ⟨rfl, by rw [ht]; exact hH.1, hH.2.F ht⟩) hH.2.2.2 hdg (hlocks := E.2.2.2.2.2.1)
theorem q_aload_n {k : Fin 4} {i : Nat} {x : Option Nat} (hx : p.tables.exec = Jvm.exec) (hb : c.code = cc) (hdg : decode cc pc = .ok (.aload_n k, 1)) (hi : (k : Nat) = i) (hl : ls[i]? = some (.val (va_rf x))) (kk : W p l e R s m args below meth c H locs cells slots Q (F0 m (pc + 1) ls (va_rf x :: rest))) : W p l e R s m args below meth c H locs cells slots Q (F0 m pc ls rest) := by
  cases x with
  | none => exact lv_aload_nN hx hb hdg hi hl kk
  | some x => exact lv_aload_n hx hb hdg hi hl kk
theorem q_aload {i : Nat} {x : Option Nat} (hx : p.tables.exec = Jvm.exec) (hb : c.code = cc) (hdg : decode cc pc = .ok (.aload i, 2)) (hl : ls[i]? = some (.val (va_rf x))) (kk : W p l e R s m args below meth c H locs cells slots Q (F0 m (pc + 2) ls (va_rf x :: rest))) : W p l e R s m args below meth c H locs cells slots Q (F0 m pc ls rest) := by
  cases x with
  | none => exact lv_aloadN hx hb hdg hl kk
  | some x => exact lv_aload hx hb hdg hl kk
theorem q_astore_n {k : Fin 4} {i : Nat} {x : Option Nat} {lv lv' : List (Nat × Value)} (hx : p.tables.exec = Jvm.exec) (hb : c.code = cc) (hdg : decode cc pc = .ok (.astore_n k, 1)) (hi : (k : Nat) = i) (h : lv_has ls nL lv) (hn : i < nL) (hl : (i, va_rf x) :: lv.filter (fun q => !(q.1 == i) && !(q.1 + 1 == i && q.2.category == 2)) = lv') (kk : ∀ ls' : Array Slot, lv_has ls' nL lv' → W p l e R s m args below meth c H locs cells slots Q (F0 m (pc + 1) ls' rest)) : W p l e R s m args below meth c H locs cells slots Q (F0 m pc ls (va_rf x :: rest)) := by
  cases x with
  | none => exact lv_astore_nN hx hb hdg hi h hn hl kk
  | some x => exact lv_astore_n hx hb hdg hi h hn hl kk
theorem q_astore {i : Nat} {x : Option Nat} {lv lv' : List (Nat × Value)} (hx : p.tables.exec = Jvm.exec) (hb : c.code = cc) (hdg : decode cc pc = .ok (.astore i, 2)) (h : lv_has ls nL lv) (hn : i < nL) (hl : (i, va_rf x) :: lv.filter (fun q => !(q.1 == i) && !(q.1 + 1 == i && q.2.category == 2)) = lv') (kk : ∀ ls' : Array Slot, lv_has ls' nL lv' → W p l e R s m args below meth c H locs cells slots Q (F0 m (pc + 2) ls' rest)) : W p l e R s m args below meth c H locs cells slots Q (F0 m pc ls (va_rf x :: rest)) := by
  cases x with
  | none => exact lv_astoreN hx hb hdg h hn hl kk
  | some x => exact lv_astore hx hb hdg h hn hl kk
theorem q_topr {x : Option Nat} (k : ∀ y : Option Nat, y = x → W p l e R s m args below meth c H locs cells slots Q (F0 m pc ls (va_rf y :: rest))) : W p l e R s m args below meth c H locs cells slots Q (F0 m pc ls (va_rf x :: rest)) := k x rfl
theorem q_ifnull {o : Option Nat} {off : Int} {tgt : Nat} {α : Type} {A : α} {B : Nat → α} {rs : α} (hx : p.tables.exec = Jvm.exec) (hb : c.code = cc) (hdg : decode cc pc = .ok (.ifnull off, 3)) (ht : (pc : Int) + off = (tgt : Int)) (hf : q_on o A B = rs)
    (kn : o = none → A = rs → W p l e R s m args below meth c H locs cells slots Q (F0 m tgt ls rest)) (ks : ∀ a, o = some a → B a = rs → W p l e R s m args below meth c H locs cells slots Q (F0 m (pc + 3) ls rest)) : W p l e R s m args below meth c H locs cells slots Q (F0 m pc ls (va_rf o :: rest)) := by
  cases o with
  | none => exact lv_ifnullN hx hb hdg ht (kn rfl hf)
  | some a => exact lv_ifnull hx hb hdg (ks a rfl hf)
theorem q_ifnonnull {o : Option Nat} {off : Int} {tgt : Nat} {α : Type} {A : α} {B : Nat → α} {rs : α} (hx : p.tables.exec = Jvm.exec) (hb : c.code = cc) (hdg : decode cc pc = .ok (.ifnonnull off, 3)) (ht : (pc : Int) + off = (tgt : Int)) (hf : q_on o A B = rs)
    (kn : o = none → A = rs → W p l e R s m args below meth c H locs cells slots Q (F0 m (pc + 3) ls rest)) (ks : ∀ a, o = some a → B a = rs → W p l e R s m args below meth c H locs cells slots Q (F0 m tgt ls rest)) : W p l e R s m args below meth c H locs cells slots Q (F0 m pc ls (va_rf o :: rest)) := by
  cases o with
  | none => exact lv_ifnonnullN hx hb hdg (kn rfl hf)
  | some a => exact lv_ifnonnull hx hb hdg ht (ks a rfl hf)
theorem q_tin {dflt hi : Int} {offs : Array Int} {len : Nat} {x : Int32} {off : Int} {tgt : Nat} (k : Nat) (hx : p.tables.exec = Jvm.exec) (hb : c.code = cc) (hdg : decode cc pc = .ok (.tableswitch dflt 0 hi offs, len)) (hxk : x = nI k) (hk : k < 2147483648) (hh : (k : Int) ≤ hi) (ho : offs[k]? = some off) (ht : (pc : Int) + off = (tgt : Int)) (kk : W p l e R s m args below meth c H locs cells slots Q (F0 m tgt ls rest)) : W p l e R s m args below meth c H locs cells slots Q (F0 m pc ls (.int x :: rest)) := by
  have h1 : x.toInt = k := by rw [hxk]; exact nI_toInt hk
  exact lv_tableIn hx hb hdg (by omega) (by omega) (by rw [h1]; simpa using ho) ht kk
theorem q_tout {dflt : Int} {offs : Array Int} {len : Nat} {x : Int32} {tgt : Nat} (n : Nat) {hi : Int} (hx : p.tables.exec = Jvm.exec) (hb : c.code = cc) (hdg : decode cc pc = .ok (.tableswitch dflt 0 hi offs, len)) (hh : hi + 1 = n) (hne : ∀ k : Nat, k < n → ¬ x = nI k) (ht : (pc : Int) + dflt = (tgt : Int)) (kk : W p l e R s m args below meth c H locs cells slots Q (F0 m tgt ls rest)) : W p l e R s m args below meth c H locs cells slots Q (F0 m pc ls (.int x :: rest)) := by
  refine lv_tableOut hx hb hdg ?_ ht kk
  by_cases h : x.toInt < 0
  · exact Or.inl h
  · refine Or.inr ?_
    obtain ⟨j, hj, rfl⟩ := nI_of (x := x) (fun q => h (by simpa using Int32.lt_iff_toInt_lt.mp q))
    have : ¬ j < n := fun q => hne j q rfl
    rw [nI_toInt hj]
    omega
theorem q_oinit (E : q_E p s m meth c cc nL own rt nm D cA) (hl : Cond.methodLink own index objectInit ∈ q_gt) (hin : Cond.instanceMethod objectInit ∈ q_gt) (hcode : Cond.code objectInit ⟨#[0xb1]⟩ 1 none ∈ q_gt) (hsz : ls.size = nL) (hfr : 1 ≤ R.frames) (hlo : (rest.map fun v => v.category).sum + 12 ≤ R.locals) (hdg : decode cc pc = .ok (.invokespecial index, 3)) (kk : W p l e R s m args below meth c H locs cells slots Q (F0 m (pc + 3) ls rest)) : W p l e R s m args below meth c H locs cells slots Q (F0 m pc ls (.ref a :: rest)) := by
  have hT := E.2.2.2.2.2.2.2.1
  exact W.objInit E.1 E.2.1 E.2.2.2.1 (hT.1 _ _ hl) (hT.1 _ _ hin) (hT.1 _ _ hcode) rfl (hsz.trans E.2.2.1.symm) rfl hdg hfr (by show 2 * 0 + _ + 12 ≤ _; omega) kk
/-- what an arraycopy of ints asks for -/
def q_cp (Z : q_Z) (a0 a : Nat) (sp dp n : Int32) : Bool := (zK Z a0 == 1) && ((zK Z a == 1) && (!(decide (sp < 0)) && (!(decide (dp < 0)) && (!(decide (n < 0)) && (decide (sp.toNatClampNeg + n.toNatClampNeg ≤ zL Z a0) && decide (dp.toNatClampNeg + n.toNatClampNeg ≤ zL Z a))))))
theorem q_acopy {a0 : Nat} {sp dp n : Int32} {α : Type} {K : q_C → α} {rs : α} (E : q_E p s m meth c cc nL own rt nm D cA) (hH : q_Hh D cA z0 s Z M H locs) (hl : Cond.methodLink own index arraycopyName ∈ q_gt) (hnat : Cond.native arraycopyName ∈ q_gt) (hstat : Cond.static arraycopyName ∈ q_gt) (hini : Cond.initialized "java/lang/System" ∈ q_gt) (hg : q_cp Z a0 a sp dp n = true) (hsz : ls.size = nL) (hfr : 1 ≤ R.frames)
    (hlo : (rest.map fun v => v.category).sum + (nativeFrameWords "java/lang/System" "arraycopy" 5 + 11) ≤ R.locals) (hdg : decode cc pc = .ok (.invokestatic index, 3)) (hf : q_nm (cP M a0 a sp.toNatClampNeg dp.toNatClampNeg n.toNatClampNeg) K = rs)
    (kk : ∀ (M1 : q_C) (H1 : Heap) (locs1 : List Loc), q_Hh D cA z0 s Z M1 H1 locs1 → K M1 = rs → W p l e R s m args below meth c H1 locs1 cells slots Q (F0 m (pc + 3) ls rest)) : W p l e R s m args below meth c H locs cells slots Q (F0 m pc ls (.int n :: .int dp :: .ref a :: .int sp :: .ref a0 :: rest)) := by
  have hT := E.2.2.2.2.2.2.2.1
  have nn : ∀ z : Int32, ¬ z < 0 → z.toInt = (z.toNatClampNeg : Int) := by
    intro z hz
    obtain ⟨j, hj, rfl⟩ := nI_of hz
    rw [nI_toInt hj, nI_clamp hj]
  unfold q_cp at hg
  simp only [Bool.and_eq_true, beq_iff_eq, Bool.not_eq_true', decide_eq_false_iff_not, decide_eq_true_eq] at hg
  obtain ⟨k0, k1, h1, h2, h3, h4, h5⟩ := hg
  have hc0 := (hH.1.2.2.2 a0).1 k0
  have hc1 := (hH.1.2.2.2 a).1 k1
  have hKA := (E.2.2.2.2.2.2.2.2.2 0 _ rfl).1
  obtain ⟨-, ka, hka, cma, hkka⟩ := hKA (zL Z a0) (fun j => .int (M.1 a0 j))
  obtain ⟨-, kb, hkb, cmb, hkkb⟩ := hKA (zL Z a) (fun j => .int (M.1 a j))
  intro T hT' X
  obtain ⟨vm', X', step⟩ := X.arraycopy E.1 E.2.2.2.1 (hT.1 _ _ hl) (hT.1 _ _ hnat) (hT.1 _ _ hstat) (hT.1 _ _ hini) (src := a0) (dst := a) (srcPos := sp) (destPos := dp) (n := n) (by rw [hT']; exact hc0) (by rw [hT']; exact hc1)
    (fun _ h => by cases h) (fun _ h => by cases h) (fun h => by cases h) (fun h => by cases h) hka hkb hkka hkkb (by rfl) h1 h2 h3
    (by rw [nn sp h1, nn n h3, arrV_size]; omega) (by rw [nn dp h2, nn n h3, arrV_size]; omega)
    (fun vm₁ _ i hi => by
      have e : (arrV (cA 1) (zL Z a0) (fun j => .int (M.1 a0 j))).slots.getD (sp.toNatClampNeg + i) .null = .int (M.1 a0 (sp.toNatClampNeg + i)) := by
        rw [Array.getD_eq_getD_getElem?, arrV_read _ _ (by omega)]
        rfl
      rw [e]
      exact ⟨rfl, trivial⟩)
    (g := F0 m pc ls (.int n :: .int dp :: .ref a :: .int sp :: .ref a0 :: rest)) rfl (hsz.trans E.2.2.1.symm) (rest := rest) rfl (by rw [E.2.1]; exact hdg) hfr (by show 2 * 0 + _ + _ ≤ _; omega)
  have e1 : copied (arrV (cA 1) (zL Z a0) (fun j => .int (M.1 a0 j))) (arrV (cA 1) (zL Z a) (fun j => .int (M.1 a j))) sp dp n = arrV (cA 1) (zL Z a) (fun j => .int (va_cpy (M.1 a0) (M.1 a) sp.toNatClampNeg dp.toNatClampNeg n.toNatClampNeg j)) := va_copied (fun z => .int z) (cA 1) (cA 1) (M.1 a0) (M.1 a) h4
  rw [e1] at X' step
  have hla : a < H.size := (Array.getElem?_eq_some_iff.mp hc1).1
  generalize hv : arrV (cA 1) (zL Z a) (fun j => .int (va_cpy (M.1 a0) (M.1 a) sp.toNatClampNeg dp.toNatClampNeg n.toNatClampNeg j)) = cv at X' step
  have hheap : ((T.setVm vm').setCell a cv).heap = H.setIfInBounds a cv := by rw [← hT']; rfl
  have oq : ∀ q : Nat, q ≠ a → (H.setIfInBounds a cv)[q]? = H[q]? := fun q hq => by simp [Array.getElem?_setIfInBounds, Ne.symm hq]
  have hs : (H.setIfInBounds a cv)[a]? = some cv := by simp [Array.getElem?_setIfInBounds, hla]
  have hp := hH.put (k := 0) (M' := cP M a0 a sp.toNatClampNeg dp.toNatClampNeg n.toNatClampNeg) (H' := H.setIfInBounds a cv) (by omega) (fun b hb => ⟨by funext j; simp [cP, hb], rfl, rfl⟩) (by simp) oq ⟨fun _ => by rw [hs, ← hv]; simp [cP], fun h => by omega, fun k2 h1 h2 => by omega, fun ci2 r2 hc2 hk2 => by omega⟩
  obtain ⟨t, a1, b1⟩ := kk _ _ _ ⟨hp.1, hp.2.1, hp.2.2.1, fun q hq => by
      rcases List.mem_append.mp hq with h | h
      · exact hH.2.2.2 q h
      · obtain ⟨z, -, hz⟩ := List.mem_map.mp h
        rw [← hz]
        exact (hH.1.2.1 a (by omega)).1⟩ hf _ hheap X'
  exact ⟨t, step t a1, b1⟩
end QN
theorem q_start {l : Launch} {D : va_G} {cA : Nat → ClassId} {z0 : Nat} {y : MethodName} {cc : ByteArray} {mL : Nat} {rt : Option FieldType} {fr lo : Nat} {av : List Value} {Z Z' : q_Z} {M M' : q_C} {rv : Option Value} {mc ms : Nat} (hy : plainFor y = true) (hn : (lg_sl av).length ≤ mL)
    (body : ∀ (p : Program) (e : Env) (s : State) (m : MethodId) (below : List Frame) (meth : Method) (c : Code) (H : Heap) (ls : Array Slot), q_E p s m meth c cc mL y.cls rt y.name D cA → q_Hh D cA z0 s Z M H [] → lv_has ls mL (lv_args 0 av) →
      W p l e ({ frames := fr, cells := mc, slots := ms, locals := lo }) s m av.toArray below meth c H [] 0 0 (MQ below (q_Q D cA z0 rv Z' M') av.toArray s mc ms (fun q => z0 ≤ q)) (F0 m 0 ls [])) : q_Ct l D cA z0 y cc mL rt fr lo av Z M rv Z' M' mc ms := by
  unfold q_Ct Met
  refine MetFree.of_bodySF (code := cc) (maxLocals := mL) (ret := rt) hy ?_ ?_
  · intro args s m h hnm
    obtain ⟨meth, c, h1, h2, h3, h4, h5, h6, -, -⟩ := Cond.code_spec hnm (atoms_spec (ws := [.code y cc mL rt]) h _ List.mem_cons_self)
    exact ⟨meth, c, h1, h2, h3, h4, h5, h6⟩
  · intro p e s m args below meth c s₁ B hml hP _
    obtain ⟨rfl, hT, hK, hH⟩ := hP
    have hh0 : s₁.heap = s.heap := by rw [B.state]; rfl
    have hown : s.vm.findClass y.cls = some m.cls := findClass_of_methodNamed B.named
    have hnm : meth.name = y.name := (name_of_methodNamed B.named B.method).1
    have w := body p e s m below meth c s.heap _ ⟨B.exec, B.bytes, hml, hown, B.returns, B.notSynchronized, hnm, hT, hK⟩ ⟨hH, va_S.rf⟩ (lv_entry av hn)
    rw [← lg_entry_eq] at w
    obtain ⟨t, a1, o, b1, b2, b3⟩ := w s₁ hh0 (Stand.of_body B)
    exact ⟨t, o, a1, b1, b2, ⟨b3.1, b3.2⟩⟩
