def q_P (D : va_G) (cA : Nat → ClassId) (z0 : Nat) (av : List Value) (Z : q_Z) (M : q_C) : Array Value → State → Prop := fun v U => v = av.toArray ∧ q_T U ∧ q_K D cA U ∧ q_Hd D cA z0 Z M U.heap
def q_Q (D : va_G) (cA : Nat → ClassId) (z0 : Nat) (rv : Option Value) (Z : q_Z) (M : q_C) : Array Value → State → Outcome → State → Prop := fun _ st oc t => oc = .returned rv ∧ q_Hd D cA z0 Z M t.heap ∧ va_F (fun q => z0 ≤ q) st t
/-- a method's contract: from memory Z, M with arguments av it answers rv and leaves Z', M'; mc cells of ms slots are new -/
def q_Ct (l : Launch) (D : va_G) (cA : Nat → ClassId) (z0 : Nat) (y : MethodName) (cc : ByteArray) (mL : Nat) (rt : Option FieldType) (fr lo : Nat) (av : List Value) (Z : q_Z) (M : q_C) (rv : Option Value) (Z' : q_Z) (M' : q_C) (mc ms : Nat) : Prop :=
  Met l y [.code y cc mL rt] ({ frames := fr, cells := mc, slots := ms, locals := lo }) (q_P D cA z0 av Z M) (q_Q D cA z0 rv Z' M') mc ms (fun q => z0 ≤ q)
/-- what the tables say of a method -/
def q_mw (y : MethodName) (cc : ByteArray) (mL : Nat) (rt : Option FieldType) (n : Nat) : Prop :=
  Cond.code y cc mL rt ∈ q_gt ∧ Cond.initialized y.cls ∈ q_gt ∧ y.cls ≠ "java/lang/invoke/MethodHandle" ∧ y.cls ≠ "java/lang/invoke/VarHandle" ∧ (parseMethodDescriptor y.desc).map (fun d => d.parameters.length) = some n
section QC
variable {p : Program} {l : Launch} {e : Env} {R : Room} {s : State} {m : MethodId} {args : Array Value} {below : List Frame} {meth : Method} {c : Code} {H : Heap} {locs : List Loc} {cells slots : Nat} {Q : State → Prop}
variable {cc : ByteArray} {pc : Nat} {ls : Array Slot} {rest : List Value} {D : va_G} {cA : Nat → ClassId} {z0 a : Nat} {Z : q_Z} {M : q_C} {own : String} {index nL : Nat} {rt : Option FieldType} {nm : String}
theorem q_blind {av : List Value} : FrameBlind (q_P D cA z0 av Z M) := fun v U g mk h => ⟨h.1, h.2.1.same rfl, va_K.moved (u := U) (U := U.calling g mk v) (Vm.Alike.refl U.vm) h.2.2.1, h.2.2.2⟩
theorem q_CB {y : MethodName} {bytes : ByteArray} {mL fr lo mc ms n : Nat} {rt' : Option FieldType} (hT : q_T s) (hw : q_mw y bytes mL rt' n) (hl : Cond.methodLink own index y ∈ q_gt) (hR : fr + 1 ≤ R.frames ∧ 8 + (mL + 11) + lo ≤ R.locals) :
    CallB R s args own index y bytes mL rt' [.code y bytes mL rt'] ({ frames := fr, cells := mc, slots := ms, locals := lo }) mc ms n := by
  refine ⟨rfl, rfl, hR.1, hR.2, fun w hw' A U hW => ?_, List.mem_cons_self, hT.1 _ _ hw.1, hT.1 _ _ hw.2.1, ⟨hw.2.2.1, hw.2.2.2.1⟩, fun sig h => ?_, hT.1 _ _ hl⟩
  · rw [List.mem_singleton.mp hw']
    exact (hT.warm hW).1 A _ hw.1
  · have h2 := hw.2.2.2.2
    rw [h] at h2
    exact (Option.some.inj h2).symm
theorem q_CN {y : MethodName} {bytes : ByteArray} {mL fr lo mc ms n : Nat} {rt' : Option FieldType} {host : String} (hT : q_T s) (hw : q_mw y bytes mL rt' n) (hl : Cond.methodLinkNest own index y host ∈ lw_tbl) (hR : fr + 1 ≤ R.frames ∧ 8 + (mL + 11) + lo ≤ R.locals) :
    va_CN R s args own index y host bytes mL rt' [.code y bytes mL rt'] ({ frames := fr, cells := mc, slots := ms, locals := lo }) mc ms n := by
  refine ⟨⟨rfl, rfl, hR.1, hR.2, fun w hw' A U hW => ?_, List.mem_cons_self⟩, hT.1 _ _ hw.1, hT.1 _ _ hw.2.1, ⟨hw.2.2.1, hw.2.2.2.1⟩, fun sig h => ?_, va_Nw.use rfl (hT.2.2.1 _ _ _ _ hl)⟩
  · rw [List.mem_singleton.mp hw']
    exact (hT.warm hW).1 A _ hw.1
  · have h2 := hw.2.2.2.2
    rw [h] at h2
    exact (Option.some.inj h2).symm
theorem q_call {st0 st1 : List Value} {mc ms c1 s1 : Nat} {rv : Option Value} {Z1 : q_Z} {M1 : q_C} {a0 : Array Value} (hr : va_Run p l e R s m args below meth c H locs cells slots mc ms (F0 m pc ls st0) rest (q_Q D cA z0 rv Z1 M1 a0) (fun q => z0 ≤ q)) (hS : va_S (fun q => z0 ≤ q) s.heap H locs) (hs1 : rv.toList ++ rest = st1) (hc1 : cells + mc = c1) (hd1 : slots + ms = s1)
    (kk : ∀ (H1 : Heap) (locs1 : List Loc), q_Hh D cA z0 s Z1 M1 H1 locs1 → W p l e R s m args below meth c H1 locs1 c1 s1 Q (F0 m (pc + 3) ls st1)) : W p l e R s m args below meth c H locs cells slots Q (F0 m pc ls st0) := by
  subst hs1; subst hc1; subst hd1
  intro T hT X
  obtain ⟨v, st₀, t, T', L, h0, X', hL, e1, e2, ⟨hv, hHd, hz, hk⟩, st⟩ := hr T hT X
  cases hv
  rw [h0] at hz hk
  obtain ⟨t2, a1, b1⟩ := kk T'.heap (locs ++ L) ⟨by rw [e1]; exact hHd, Nat.le_trans hS.1 (by rw [e1]; exact hz), fun q h1 h2 => by rw [e1, hk q (Nat.lt_of_lt_of_le h1 hS.1) h2]; exact hS.2.1 q h1 h2, fun q hq => by
      rcases List.mem_append.mp hq with h | h
      · exact hS.2.2 q h
      · exact hL q h⟩ T' rfl X'
  exact ⟨t2, st t2 a1, b1⟩
theorem q_cV {y : MethodName} {bytes : ByteArray} {mL fr lo mc ms n c1 s1 : Nat} {rt' : Option FieldType} {As st0 st1 : List Value} {rv : Option Value} {Z1 : q_Z} {M1 : q_C} {b : Nat} (E : q_E p s m meth c cc nL own rt nm D cA) (hH : q_Hh D cA z0 s Z M H locs) (hM : q_Ct l D cA z0 y bytes mL rt' fr lo (.ref b :: As) Z M rv Z1 M1 mc ms) (hw : q_mw y bytes mL rt' n) (hin : Cond.instanceMethod y ∈ q_gt) {ci : Nat} {r : vw_C} (hc : vwCl[ci]? = some r) (hsel : Cond.selects r.1 y y ∈ q_gt) (hl : Cond.methodLink own index y ∈ q_gt) (hk : zK Z b = 10 + ci) (hcs : cells + mc ≤ R.cells ∧ slots + ms ≤ R.slots) (hc1 : cells + mc = c1) (hd1 : slots + ms = s1) (hn : As.length = n) (hsz : ls.size = nL) (hst : st0 = As.reverse ++ .ref b :: rest) (hs1 : rv.toList ++ rest = st1) (hcat : (rest.map fun v => v.category).sum ≤ 8) (hR : fr + 1 ≤ R.frames ∧ 8 + (mL + 11) + lo ≤ R.locals) (hdg : decode cc pc = .ok (.invokevirtual index, 3))
    (kk : ∀ (H1 : Heap) (locs1 : List Loc), q_Hh D cA z0 s Z1 M1 H1 locs1 → W p l e R s m args below meth c H1 locs1 c1 s1 Q (F0 m (pc + 3) ls st1)) : W p l e R s m args below meth c H locs cells slots Q (F0 m pc ls st0) := by
  have hT := E.2.2.2.2.2.2.2.1
  obtain ⟨cell, g1, g2, g3, -⟩ := (hH.1.2.2.2 b).2.2.2 ci r hc hk
  refine q_call (va_runV (Ts := q_gt) (C := r.1) (As := As) (rest := rest) ⟨E.1, E.2.1, E.2.2.1, E.2.2.2.1, q_hts hT⟩ hM ⟨q_CB hT hw hl hR, hT.1 _ _ hin, hT.1 _ _ hsel⟩ ⟨q_blind, ⟨cell, g1, by rw [g3]; rfl, by rw [g2]; exact (E.2.2.2.2.2.2.2.2.1 ci r hc).2.1⟩, fun U hU hW => ⟨rfl, hT.warm hW, va_K.moved hW.alike E.2.2.2.2.2.2.2.2, by rw [hU]; exact hH.1⟩⟩ rfl hn hsz hst (lv_room hcat) hdg hcs) hH.2 hs1 hc1 hd1 kk
theorem q_cS {y : MethodName} {bytes : ByteArray} {mL fr lo mc ms n c1 s1 : Nat} {rt' : Option FieldType} {As st0 st1 : List Value} {rv : Option Value} {Z1 : q_Z} {M1 : q_C} (E : q_E p s m meth c cc nL own rt nm D cA) (hH : q_Hh D cA z0 s Z M H locs) (hM : q_Ct l D cA z0 y bytes mL rt' fr lo As Z M rv Z1 M1 mc ms) (hw : q_mw y bytes mL rt' n) (hin : Cond.static y ∈ q_gt) (hl : Cond.methodLink own index y ∈ q_gt) (hcs : cells + mc ≤ R.cells ∧ slots + ms ≤ R.slots) (hc1 : cells + mc = c1) (hd1 : slots + ms = s1) (hn : As.length = n) (hsz : ls.size = nL) (hst : st0 = As.reverse ++ rest) (hs1 : rv.toList ++ rest = st1) (hcat : (rest.map fun v => v.category).sum ≤ 8) (hR : fr + 1 ≤ R.frames ∧ 8 + (mL + 11) + lo ≤ R.locals) (hdg : decode cc pc = .ok (.invokestatic index, 3))
    (kk : ∀ (H1 : Heap) (locs1 : List Loc), q_Hh D cA z0 s Z1 M1 H1 locs1 → W p l e R s m args below meth c H1 locs1 c1 s1 Q (F0 m (pc + 3) ls st1)) : W p l e R s m args below meth c H locs cells slots Q (F0 m pc ls st0) := by
  have hT := E.2.2.2.2.2.2.2.1
  refine q_call (va_runS (Ts := q_gt) (As := As) (rest := rest) ⟨E.1, E.2.1, E.2.2.1, E.2.2.2.1, q_hts hT⟩ hM ⟨q_CB hT hw hl hR, hT.1 _ _ hin⟩ ⟨q_blind, fun U hU hW => ⟨rfl, hT.warm hW, va_K.moved hW.alike E.2.2.2.2.2.2.2.2, by rw [hU]; exact hH.1⟩⟩ rfl hn hsz hst (lv_room hcat) hdg hcs) hH.2 hs1 hc1 hd1 kk
theorem q_cI {y : MethodName} {bytes : ByteArray} {mL fr lo mc ms n c1 s1 : Nat} {As st0 st1 : List Value} {rv : Option Value} {Z1 : q_Z} {M1 : q_C} {b : Nat} (E : q_E p s m meth c cc nL own rt nm D cA) (hH : q_Hh D cA z0 s Z M H locs) (hM : q_Ct l D cA z0 y bytes mL none fr lo (.ref b :: As) Z M rv Z1 M1 mc ms) (hw : q_mw y bytes mL none n) (hin : Cond.instanceMethod y ∈ q_gt) (hy1 : y.name = "<init>") (hl : Cond.methodLink own index y ∈ q_gt) (hcs : cells + mc ≤ R.cells ∧ slots + ms ≤ R.slots) (hc1 : cells + mc = c1) (hd1 : slots + ms = s1) (hn : As.length = n) (hsz : ls.size = nL) (hst : st0 = As.reverse ++ .ref b :: rest) (hs1 : rv.toList ++ rest = st1) (hcat : (rest.map fun v => v.category).sum ≤ 8) (hR : fr + 1 ≤ R.frames ∧ 8 + (mL + 11) + lo ≤ R.locals) (hdg : decode cc pc = .ok (.invokespecial index, 3))
    (kk : ∀ (H1 : Heap) (locs1 : List Loc), q_Hh D cA z0 s Z1 M1 H1 locs1 → W p l e R s m args below meth c H1 locs1 c1 s1 Q (F0 m (pc + 3) ls st1)) : W p l e R s m args below meth c H locs cells slots Q (F0 m pc ls st0) := by
  have hT := E.2.2.2.2.2.2.2.1
  refine q_call (va_runI (Ts := q_gt) (As := As) (rest := rest) ⟨E.1, E.2.1, E.2.2.1, E.2.2.2.1, q_hts hT⟩ hM ⟨q_CB hT hw hl hR, hy1, hT.1 _ _ hin⟩ ⟨q_blind, fun U hU hW => ⟨rfl, hT.warm hW, va_K.moved hW.alike E.2.2.2.2.2.2.2.2, by rw [hU]; exact hH.1⟩⟩ rfl hn hsz hst (lv_room hcat) hdg hcs) hH.2 hs1 hc1 hd1 kk
theorem q_cVN {host : String} {y : MethodName} {bytes : ByteArray} {mL fr lo mc ms n c1 s1 : Nat} {rt' : Option FieldType} {As st0 st1 : List Value} {rv : Option Value} {Z1 : q_Z} {M1 : q_C} {b : Nat} (E : q_E p s m meth c cc nL own rt nm D cA) (hH : q_Hh D cA z0 s Z M H locs) (hM : q_Ct l D cA z0 y bytes mL rt' fr lo (.ref b :: As) Z M rv Z1 M1 mc ms) (hw : q_mw y bytes mL rt' n) (hin : Cond.instanceMethod y ∈ q_gt) {ci : Nat} {r : vw_C} (hc : vwCl[ci]? = some r) (hsel : Cond.selects r.1 y y ∈ q_gt) (hl : Cond.methodLinkNest own index y host ∈ lw_tbl) (hk : zK Z b = 10 + ci) (hcs : cells + mc ≤ R.cells ∧ slots + ms ≤ R.slots) (hc1 : cells + mc = c1) (hd1 : slots + ms = s1) (hn : As.length = n) (hsz : ls.size = nL) (hst : st0 = As.reverse ++ .ref b :: rest) (hs1 : rv.toList ++ rest = st1) (hcat : (rest.map fun v => v.category).sum ≤ 8) (hR : fr + 1 ≤ R.frames ∧ 8 + (mL + 11) + lo ≤ R.locals) (hdg : decode cc pc = .ok (.invokevirtual index, 3))
    (kk : ∀ (H1 : Heap) (locs1 : List Loc), q_Hh D cA z0 s Z1 M1 H1 locs1 → W p l e R s m args below meth c H1 locs1 c1 s1 Q (F0 m (pc + 3) ls st1)) : W p l e R s m args below meth c H locs cells slots Q (F0 m pc ls st0) := by
  have hT := E.2.2.2.2.2.2.2.1
  obtain ⟨cell, g1, g2, g3, -⟩ := (hH.1.2.2.2 b).2.2.2 ci r hc hk
  refine q_call (va_runVN (Ts := q_gt) (C := r.1) (As := As) (rest := rest) ⟨E.1, E.2.1, E.2.2.1, E.2.2.2.1, q_hts hT⟩ hM ⟨q_CN hT hw hl hR, hT.1 _ _ hin, hT.1 _ _ hsel⟩ ⟨q_blind, ⟨cell, g1, by rw [g3]; rfl, by rw [g2]; exact (E.2.2.2.2.2.2.2.2.1 ci r hc).2.1⟩, fun U hU hW => ⟨rfl, hT.warm hW, va_K.moved hW.alike E.2.2.2.2.2.2.2.2, by rw [hU]; exact hH.1⟩⟩ rfl hn hsz hst (lv_room hcat) hdg hcs) hH.2 hs1 hc1 hd1 kk
theorem q_cSN {host : String} {y : MethodName} {bytes : ByteArray} {mL fr lo mc ms n c1 s1 : Nat} {rt' : Option FieldType} {As st0 st1 : List Value} {rv : Option Value} {Z1 : q_Z} {M1 : q_C} (E : q_E p s m meth c cc nL own rt nm D cA) (hH : q_Hh D cA z0 s Z M H locs) (hM : q_Ct l D cA z0 y bytes mL rt' fr lo As Z M rv Z1 M1 mc ms) (hw : q_mw y bytes mL rt' n) (hin : Cond.static y ∈ q_gt) (hl : Cond.methodLinkNest own index y host ∈ lw_tbl) (hcs : cells + mc ≤ R.cells ∧ slots + ms ≤ R.slots) (hc1 : cells + mc = c1) (hd1 : slots + ms = s1) (hn : As.length = n) (hsz : ls.size = nL) (hst : st0 = As.reverse ++ rest) (hs1 : rv.toList ++ rest = st1) (hcat : (rest.map fun v => v.category).sum ≤ 8) (hR : fr + 1 ≤ R.frames ∧ 8 + (mL + 11) + lo ≤ R.locals) (hdg : decode cc pc = .ok (.invokestatic index, 3))
    (kk : ∀ (H1 : Heap) (locs1 : List Loc), q_Hh D cA z0 s Z1 M1 H1 locs1 → W p l e R s m args below meth c H1 locs1 c1 s1 Q (F0 m (pc + 3) ls st1)) : W p l e R s m args below meth c H locs cells slots Q (F0 m pc ls st0) := by
  have hT := E.2.2.2.2.2.2.2.1
  refine q_call (va_runSN (Ts := q_gt) (As := As) (rest := rest) ⟨E.1, E.2.1, E.2.2.1, E.2.2.2.1, q_hts hT⟩ hM ⟨q_CN hT hw hl hR, hT.1 _ _ hin, trivial⟩ ⟨q_blind, fun U hU hW => ⟨rfl, hT.warm hW, va_K.moved hW.alike E.2.2.2.2.2.2.2.2, by rw [hU]; exact hH.1⟩⟩ rfl hn hsz hst (lv_room hcat) hdg hcs) hH.2 hs1 hc1 hd1 kk
theorem q_cIN {host : String} {y : MethodName} {bytes : ByteArray} {mL fr lo mc ms n c1 s1 : Nat} {As st0 st1 : List Value} {rv : Option Value} {Z1 : q_Z} {M1 : q_C} {b : Nat} (E : q_E p s m meth c cc nL own rt nm D cA) (hH : q_Hh D cA z0 s Z M H locs) (hM : q_Ct l D cA z0 y bytes mL none fr lo (.ref b :: As) Z M rv Z1 M1 mc ms) (hw : q_mw y bytes mL none n) (hin : Cond.instanceMethod y ∈ q_gt) (hy1 : y.name = "<init>") (hl : Cond.methodLinkNest own index y host ∈ lw_tbl) (hcs : cells + mc ≤ R.cells ∧ slots + ms ≤ R.slots) (hc1 : cells + mc = c1) (hd1 : slots + ms = s1) (hn : As.length = n) (hsz : ls.size = nL) (hst : st0 = As.reverse ++ .ref b :: rest) (hs1 : rv.toList ++ rest = st1) (hcat : (rest.map fun v => v.category).sum ≤ 8) (hR : fr + 1 ≤ R.frames ∧ 8 + (mL + 11) + lo ≤ R.locals) (hdg : decode cc pc = .ok (.invokespecial index, 3))
    (kk : ∀ (H1 : Heap) (locs1 : List Loc), q_Hh D cA z0 s Z1 M1 H1 locs1 → W p l e R s m args below meth c H1 locs1 c1 s1 Q (F0 m (pc + 3) ls st1)) : W p l e R s m args below meth c H locs cells slots Q (F0 m pc ls st0) := by
  have hT := E.2.2.2.2.2.2.2.1
  refine q_call (va_runIN (Ts := q_gt) (As := As) (rest := rest) ⟨E.1, E.2.1, E.2.2.1, E.2.2.2.1, q_hts hT⟩ hM ⟨q_CN hT hw hl hR, hy1, hT.1 _ _ hin⟩ ⟨q_blind, fun U hU hW => ⟨rfl, hT.warm hW, va_K.moved hW.alike E.2.2.2.2.2.2.2.2, by rw [hU]; exact hH.1⟩⟩ rfl hn hsz hst (lv_room hcat) hdg hcs) hH.2 hs1 hc1 hd1 kk
theorem q_iret {v : Int32} (E : q_E p s m meth c cc nL own (some .int) nm D cA) (hH : q_Hh D cA z0 s Z M H locs) (hdg : decode cc pc = .ok (.ireturn, 1)) : W p l e R s m args below meth c H locs cells slots (MQ below (q_Q D cA z0 (some (.int v)) Z M) args s cells slots (fun q => z0 ≤ q)) (F0 m pc ls [.int v]) :=
  W.iret (v := v) E.1 E.2.1 E.2.2.2.2.1 (fun t ht hW => ⟨rfl, by rw [ht]; exact hH.1, hH.2.F ht⟩) hH.2.2.2 hdg (hlocks := E.2.2.2.2.2.1)
theorem q_lret {v : Int64} (E : q_E p s m meth c cc nL own (some .long) nm D cA) (hH : q_Hh D cA z0 s Z M H locs) (hdg : decode cc pc = .ok (.lreturn, 1)) : W p l e R s m args below meth c H locs cells slots (MQ below (q_Q D cA z0 (some (.long v)) Z M) args s cells slots (fun q => z0 ≤ q)) (F0 m pc ls [.long v]) :=
  W.lret (v := v) E.1 E.2.1 E.2.2.2.2.1 (fun t ht hW => ⟨rfl, by rw [ht]; exact hH.1, hH.2.F ht⟩) hH.2.2.2 hdg (hlocks := E.2.2.2.2.2.1)
theorem q_zb {v : Int32} (h : (decide (v = 0) || decide (v = 1)) = true) : narrow .boolean (.int v) = .int v ∧ fits .boolean (.int v) = true := by
  simp only [Bool.or_eq_true, decide_eq_true_eq] at h
  rcases h with rfl | rfl <;> decide
theorem q_zret {v : Int32} (E : q_E p s m meth c cc nL own (some .boolean) nm D cA) (hH : q_Hh D cA z0 s Z M H locs) (hz : (decide (v = 0) || decide (v = 1)) = true) (hdg : decode cc pc = .ok (.ireturn, 1)) : W p l e R s m args below meth c H locs cells slots (MQ below (q_Q D cA z0 (some (.int v)) Z M) args s cells slots (fun q => z0 ≤ q)) (F0 m pc ls [.int v]) :=
  W.zret (v := v) E.1 E.2.1 E.2.2.2.2.1 (q_zb hz).1 (fun t ht hW => ⟨rfl, by rw [ht]; exact hH.1, hH.2.F ht⟩) hH.2.2.2 hdg (hlocks := E.2.2.2.2.2.1)
theorem q_vret (E : q_E p s m meth c cc nL own none nm D cA) (hH : q_Hh D cA z0 s Z M H locs) (hdg : decode cc pc = .ok (.return_, 1)) : W p l e R s m args below meth c H locs cells slots (MQ below (q_Q D cA z0 none Z M) args s cells slots (fun q => z0 ≤ q)) (F0 m pc ls []) :=
  W.vret E.1 E.2.1 E.2.2.2.2.1 (fun t ht hW => ⟨rfl, by rw [ht]; exact hH.1, hH.2.F ht⟩) hH.2.2.2 hdg (hlocks := E.2.2.2.2.2.1)
end QC
