def q_E (p : Program) (s : State) (m : MethodId) (meth : Method) (c : Code) (cc : ByteArray) (nL : Nat) (own : String) (rt : Option FieldType) (nm : String) (D : va_G) (cA : Nat → ClassId) : Prop :=
  p.tables.exec = Jvm.exec ∧ c.code = cc ∧ c.maxLocals = nL ∧ s.vm.findClass own = some m.cls ∧ meth.sig.returnType = rt ∧ meth.locks = false ∧ meth.name = nm ∧ q_T s ∧ q_K D cA s
section QO
variable {p : Program} {l : Launch} {e : Env} {R : Room} {s : State} {m : MethodId} {args : Array Value} {below : List Frame} {meth : Method} {c : Code} {H : Heap} {locs : List Loc} {cells slots : Nat} {Q : State → Prop}
variable {cc : ByteArray} {pc : Nat} {ls : Array Slot} {rest : List Value} {D : va_G} {cA : Nat → ClassId} {z0 a : Nat} {Z : q_Z} {M : q_C} {own : String} {index nL : Nat} {rt : Option FieldType} {nm : String}
theorem q_getI (E : q_E p s m meth c cc nL own rt nm D cA) (hH : q_Hh D cA z0 s Z M H locs) {ci : Nat} {r : vw_C} (hc : vwCl[ci]? = some r) (k : Nat) (hkN : k < r.2.2)
    (hlink : Cond.fieldLink own index (r.2.1 k).1 (r.2.1 k).2.1 (r.2.1 k).2.2.1 ∈ q_gt) (hv : ∀ i j q, q_fv (q_ty ci k) i j q = .int i) (hk : zK Z a = 10 + ci) (hdg : decode cc pc = .ok (.getfield index, 3))
    (kk : W p l e R s m args below meth c H locs cells slots Q (F0 m (pc + 3) ls (.int (gI M a k) :: rest))) : W p l e R s m args below meth c H locs cells slots Q (F0 m pc ls (.ref a :: rest)) :=
  q_get E.1 E.2.1 E.2.2.2.2.2.2.2.1 E.2.2.2.1 E.2.2.2.2.2.2.2.2 hH hc k hkN hlink hk (hv _ _ _) hdg kk
theorem q_getIN {host : String} (E : q_E p s m meth c cc nL own rt nm D cA) (hH : q_Hh D cA z0 s Z M H locs) {ci : Nat} {r : vw_C} (hc : vwCl[ci]? = some r) (k : Nat) (hkN : k < r.2.2)
    (hlink : Cond.fieldLinkNest own index (r.2.1 k).1 (r.2.1 k).2.1 (r.2.1 k).2.2.1 host ∈ lw_tbl) (hv : ∀ i j q, q_fv (q_ty ci k) i j q = .int i) (hk : zK Z a = 10 + ci) (hdg : decode cc pc = .ok (.getfield index, 3))
    (kk : W p l e R s m args below meth c H locs cells slots Q (F0 m (pc + 3) ls (.int (gI M a k) :: rest))) : W p l e R s m args below meth c H locs cells slots Q (F0 m pc ls (.ref a :: rest)) :=
  q_getN E.1 E.2.1 E.2.2.2.2.2.2.2.1 E.2.2.2.1 E.2.2.2.2.2.2.2.2 hH hc k hkN hlink hk (hv _ _ _) hdg kk
theorem q_getJ (E : q_E p s m meth c cc nL own rt nm D cA) (hH : q_Hh D cA z0 s Z M H locs) {ci : Nat} {r : vw_C} (hc : vwCl[ci]? = some r) (k : Nat) (hkN : k < r.2.2)
    (hlink : Cond.fieldLink own index (r.2.1 k).1 (r.2.1 k).2.1 (r.2.1 k).2.2.1 ∈ q_gt) (hv : ∀ i j q, q_fv (q_ty ci k) i j q = .long j) (hk : zK Z a = 10 + ci) (hdg : decode cc pc = .ok (.getfield index, 3))
    (kk : W p l e R s m args below meth c H locs cells slots Q (F0 m (pc + 3) ls (.long (gJ M a k) :: rest))) : W p l e R s m args below meth c H locs cells slots Q (F0 m pc ls (.ref a :: rest)) :=
  q_get E.1 E.2.1 E.2.2.2.2.2.2.2.1 E.2.2.2.1 E.2.2.2.2.2.2.2.2 hH hc k hkN hlink hk (hv _ _ _) hdg kk
theorem q_getJN {host : String} (E : q_E p s m meth c cc nL own rt nm D cA) (hH : q_Hh D cA z0 s Z M H locs) {ci : Nat} {r : vw_C} (hc : vwCl[ci]? = some r) (k : Nat) (hkN : k < r.2.2)
    (hlink : Cond.fieldLinkNest own index (r.2.1 k).1 (r.2.1 k).2.1 (r.2.1 k).2.2.1 host ∈ lw_tbl) (hv : ∀ i j q, q_fv (q_ty ci k) i j q = .long j) (hk : zK Z a = 10 + ci) (hdg : decode cc pc = .ok (.getfield index, 3))
    (kk : W p l e R s m args below meth c H locs cells slots Q (F0 m (pc + 3) ls (.long (gJ M a k) :: rest))) : W p l e R s m args below meth c H locs cells slots Q (F0 m pc ls (.ref a :: rest)) :=
  q_getN E.1 E.2.1 E.2.2.2.2.2.2.2.1 E.2.2.2.1 E.2.2.2.2.2.2.2.2 hH hc k hkN hlink hk (hv _ _ _) hdg kk
theorem q_getR (E : q_E p s m meth c cc nL own rt nm D cA) (hH : q_Hh D cA z0 s Z M H locs) {ci : Nat} {r : vw_C} (hc : vwCl[ci]? = some r) (k : Nat) (hkN : k < r.2.2)
    (hlink : Cond.fieldLink own index (r.2.1 k).1 (r.2.1 k).2.1 (r.2.1 k).2.2.1 ∈ q_gt) (hv : ∀ i j q, q_fv (q_ty ci k) i j q = va_rf q) (hk : zK Z a = 10 + ci) (hdg : decode cc pc = .ok (.getfield index, 3))
    (kk : W p l e R s m args below meth c H locs cells slots Q (F0 m (pc + 3) ls (va_rf (gR M a k) :: rest))) : W p l e R s m args below meth c H locs cells slots Q (F0 m pc ls (.ref a :: rest)) :=
  q_get E.1 E.2.1 E.2.2.2.2.2.2.2.1 E.2.2.2.1 E.2.2.2.2.2.2.2.2 hH hc k hkN hlink hk (hv _ _ _) hdg kk
theorem q_getRN {host : String} (E : q_E p s m meth c cc nL own rt nm D cA) (hH : q_Hh D cA z0 s Z M H locs) {ci : Nat} {r : vw_C} (hc : vwCl[ci]? = some r) (k : Nat) (hkN : k < r.2.2)
    (hlink : Cond.fieldLinkNest own index (r.2.1 k).1 (r.2.1 k).2.1 (r.2.1 k).2.2.1 host ∈ lw_tbl) (hv : ∀ i j q, q_fv (q_ty ci k) i j q = va_rf q) (hk : zK Z a = 10 + ci) (hdg : decode cc pc = .ok (.getfield index, 3))
    (kk : W p l e R s m args below meth c H locs cells slots Q (F0 m (pc + 3) ls (va_rf (gR M a k) :: rest))) : W p l e R s m args below meth c H locs cells slots Q (F0 m pc ls (.ref a :: rest)) :=
  q_getN E.1 E.2.1 E.2.2.2.2.2.2.2.1 E.2.2.2.1 E.2.2.2.2.2.2.2.2 hH hc k hkN hlink hk (hv _ _ _) hdg kk
theorem q_putI (E : q_E p s m meth c cc nL own rt nm D cA) (hH : q_Hh D cA z0 s Z M H locs) {ci : Nat} {r : vw_C} (hc : vwCl[ci]? = some r) (k : Nat) (hkN : k < r.2.2)
    (hlink : Cond.fieldLink own index (r.2.1 k).1 (r.2.1 k).2.1 (r.2.1 k).2.2.1 ∈ q_gt) (hfin : (r.2.1 k).2.2.2 = false) (hv : ∀ i j q, q_fv (q_ty ci k) i j q = .int i) {x : Int32} {α : Type} {K : q_C → α} {rs : α} (hk : zK Z a = 10 + ci) (hn : narrow (q_ty ci k) (.int x) = .int x) (hfit : fits (q_ty ci k) (.int x) = true) (hdg : decode cc pc = .ok (.putfield index, 3))
    (hf : q_nm (sI M a k x) K = rs) (kk : ∀ (M1 : q_C) (H1 : Heap) (locs1 : List Loc), q_Hh D cA z0 s Z M1 H1 locs1 → K M1 = rs → W p l e R s m args below meth c H1 locs1 cells slots Q (F0 m (pc + 3) ls rest)) : W p l e R s m args below meth c H locs cells slots Q (F0 m pc ls (.int x :: .ref a :: rest)) := by
  refine q_put (M' := sI M a k x) E.1 E.2.1 E.2.2.2.2.2.2.2.1 E.2.2.2.1 E.2.2.2.2.2.2.2.2 hH hc k hkN hlink hfin hk hn hfit (fun b hb => ?_) (fun j hj => ?_) hdg (fun H1 locs1 hH1 => kk _ H1 locs1 hH1 hf)
  · exact ⟨by first | rfl | exact q_u2a _ _ _ _ hb, by first | rfl | exact q_u2a _ _ _ _ hb, by first | rfl | exact q_u2a _ _ _ _ hb⟩
  · by_cases h : j = k
    · subst h
      rw [hv]
      simp [updV, sI, q_u2]
    · simp [updV, sI, q_u2, h]
theorem q_putIN {host : String} (E : q_E p s m meth c cc nL own rt nm D cA) (hH : q_Hh D cA z0 s Z M H locs) {ci : Nat} {r : vw_C} (hc : vwCl[ci]? = some r) (k : Nat) (hkN : k < r.2.2)
    (hlink : Cond.fieldLinkNest own index (r.2.1 k).1 (r.2.1 k).2.1 (r.2.1 k).2.2.1 host ∈ lw_tbl) (hfin : (r.2.1 k).2.2.2 = false) (hv : ∀ i j q, q_fv (q_ty ci k) i j q = .int i) {x : Int32} {α : Type} {K : q_C → α} {rs : α} (hk : zK Z a = 10 + ci) (hn : narrow (q_ty ci k) (.int x) = .int x) (hfit : fits (q_ty ci k) (.int x) = true) (hdg : decode cc pc = .ok (.putfield index, 3))
    (hf : q_nm (sI M a k x) K = rs) (kk : ∀ (M1 : q_C) (H1 : Heap) (locs1 : List Loc), q_Hh D cA z0 s Z M1 H1 locs1 → K M1 = rs → W p l e R s m args below meth c H1 locs1 cells slots Q (F0 m (pc + 3) ls rest)) : W p l e R s m args below meth c H locs cells slots Q (F0 m pc ls (.int x :: .ref a :: rest)) := by
  refine q_putN (M' := sI M a k x) E.1 E.2.1 E.2.2.2.2.2.2.2.1 E.2.2.2.1 E.2.2.2.2.2.2.2.2 hH hc k hkN hlink hfin hk hn hfit (fun b hb => ?_) (fun j hj => ?_) hdg (fun H1 locs1 hH1 => kk _ H1 locs1 hH1 hf)
  · exact ⟨by first | rfl | exact q_u2a _ _ _ _ hb, by first | rfl | exact q_u2a _ _ _ _ hb, by first | rfl | exact q_u2a _ _ _ _ hb⟩
  · by_cases h : j = k
    · subst h
      rw [hv]
      simp [updV, sI, q_u2]
    · simp [updV, sI, q_u2, h]
theorem q_putIF (E : q_E p s m meth c cc nL own rt nm D cA) (hH : q_Hh D cA z0 s Z M H locs) {ci : Nat} {r : vw_C} (hc : vwCl[ci]? = some r) (k : Nat) (hkN : k < r.2.2)
    (hlink : Cond.fieldLink own index (r.2.1 k).1 (r.2.1 k).2.1 (r.2.1 k).2.2.1 ∈ q_gt) (hfin : (r.2.1 k).2.2.2 = true) (hin2 : nm = "<init>") (hdecl : (r.2.1 k).1 = own) (hv : ∀ i j q, q_fv (q_ty ci k) i j q = .int i) {x : Int32} {α : Type} {K : q_C → α} {rs : α} (hk : zK Z a = 10 + ci) (hn : narrow (q_ty ci k) (.int x) = .int x) (hfit : fits (q_ty ci k) (.int x) = true) (hdg : decode cc pc = .ok (.putfield index, 3))
    (hf : q_nm (sI M a k x) K = rs) (kk : ∀ (M1 : q_C) (H1 : Heap) (locs1 : List Loc), q_Hh D cA z0 s Z M1 H1 locs1 → K M1 = rs → W p l e R s m args below meth c H1 locs1 cells slots Q (F0 m (pc + 3) ls rest)) : W p l e R s m args below meth c H locs cells slots Q (F0 m pc ls (.int x :: .ref a :: rest)) := by
  refine q_putF (M' := sI M a k x) E.1 E.2.1 E.2.2.2.2.2.2.2.1 E.2.2.2.1 E.2.2.2.2.2.2.2.2 hH hc k hkN hlink hfin (E.2.2.2.2.2.2.1.trans hin2) hdecl hk hn hfit (fun b hb => ?_) (fun j hj => ?_) hdg (fun H1 locs1 hH1 => kk _ H1 locs1 hH1 hf)
  · exact ⟨by first | rfl | exact q_u2a _ _ _ _ hb, by first | rfl | exact q_u2a _ _ _ _ hb, by first | rfl | exact q_u2a _ _ _ _ hb⟩
  · by_cases h : j = k
    · subst h
      rw [hv]
      simp [updV, sI, q_u2]
    · simp [updV, sI, q_u2, h]
theorem q_putJ (E : q_E p s m meth c cc nL own rt nm D cA) (hH : q_Hh D cA z0 s Z M H locs) {ci : Nat} {r : vw_C} (hc : vwCl[ci]? = some r) (k : Nat) (hkN : k < r.2.2)
    (hlink : Cond.fieldLink own index (r.2.1 k).1 (r.2.1 k).2.1 (r.2.1 k).2.2.1 ∈ q_gt) (hfin : (r.2.1 k).2.2.2 = false) (hv : ∀ i j q, q_fv (q_ty ci k) i j q = .long j) {x : Int64} {α : Type} {K : q_C → α} {rs : α} (hk : zK Z a = 10 + ci) (hn : narrow (q_ty ci k) (.long x) = .long x) (hfit : fits (q_ty ci k) (.long x) = true) (hdg : decode cc pc = .ok (.putfield index, 3))
    (hf : q_nm (sJ M a k x) K = rs) (kk : ∀ (M1 : q_C) (H1 : Heap) (locs1 : List Loc), q_Hh D cA z0 s Z M1 H1 locs1 → K M1 = rs → W p l e R s m args below meth c H1 locs1 cells slots Q (F0 m (pc + 3) ls rest)) : W p l e R s m args below meth c H locs cells slots Q (F0 m pc ls (.long x :: .ref a :: rest)) := by
  refine q_put (M' := sJ M a k x) E.1 E.2.1 E.2.2.2.2.2.2.2.1 E.2.2.2.1 E.2.2.2.2.2.2.2.2 hH hc k hkN hlink hfin hk hn hfit (fun b hb => ?_) (fun j hj => ?_) hdg (fun H1 locs1 hH1 => kk _ H1 locs1 hH1 hf)
  · exact ⟨by first | rfl | exact q_u2a _ _ _ _ hb, by first | rfl | exact q_u2a _ _ _ _ hb, by first | rfl | exact q_u2a _ _ _ _ hb⟩
  · by_cases h : j = k
    · subst h
      rw [hv]
      simp [updV, sJ, q_u2]
    · simp [updV, sJ, q_u2, h]
theorem q_putJN {host : String} (E : q_E p s m meth c cc nL own rt nm D cA) (hH : q_Hh D cA z0 s Z M H locs) {ci : Nat} {r : vw_C} (hc : vwCl[ci]? = some r) (k : Nat) (hkN : k < r.2.2)
    (hlink : Cond.fieldLinkNest own index (r.2.1 k).1 (r.2.1 k).2.1 (r.2.1 k).2.2.1 host ∈ lw_tbl) (hfin : (r.2.1 k).2.2.2 = false) (hv : ∀ i j q, q_fv (q_ty ci k) i j q = .long j) {x : Int64} {α : Type} {K : q_C → α} {rs : α} (hk : zK Z a = 10 + ci) (hn : narrow (q_ty ci k) (.long x) = .long x) (hfit : fits (q_ty ci k) (.long x) = true) (hdg : decode cc pc = .ok (.putfield index, 3))
    (hf : q_nm (sJ M a k x) K = rs) (kk : ∀ (M1 : q_C) (H1 : Heap) (locs1 : List Loc), q_Hh D cA z0 s Z M1 H1 locs1 → K M1 = rs → W p l e R s m args below meth c H1 locs1 cells slots Q (F0 m (pc + 3) ls rest)) : W p l e R s m args below meth c H locs cells slots Q (F0 m pc ls (.long x :: .ref a :: rest)) := by
  refine q_putN (M' := sJ M a k x) E.1 E.2.1 E.2.2.2.2.2.2.2.1 E.2.2.2.1 E.2.2.2.2.2.2.2.2 hH hc k hkN hlink hfin hk hn hfit (fun b hb => ?_) (fun j hj => ?_) hdg (fun H1 locs1 hH1 => kk _ H1 locs1 hH1 hf)
  · exact ⟨by first | rfl | exact q_u2a _ _ _ _ hb, by first | rfl | exact q_u2a _ _ _ _ hb, by first | rfl | exact q_u2a _ _ _ _ hb⟩
  · by_cases h : j = k
    · subst h
      rw [hv]
      simp [updV, sJ, q_u2]
    · simp [updV, sJ, q_u2, h]
theorem q_putJF (E : q_E p s m meth c cc nL own rt nm D cA) (hH : q_Hh D cA z0 s Z M H locs) {ci : Nat} {r : vw_C} (hc : vwCl[ci]? = some r) (k : Nat) (hkN : k < r.2.2)
    (hlink : Cond.fieldLink own index (r.2.1 k).1 (r.2.1 k).2.1 (r.2.1 k).2.2.1 ∈ q_gt) (hfin : (r.2.1 k).2.2.2 = true) (hin2 : nm = "<init>") (hdecl : (r.2.1 k).1 = own) (hv : ∀ i j q, q_fv (q_ty ci k) i j q = .long j) {x : Int64} {α : Type} {K : q_C → α} {rs : α} (hk : zK Z a = 10 + ci) (hn : narrow (q_ty ci k) (.long x) = .long x) (hfit : fits (q_ty ci k) (.long x) = true) (hdg : decode cc pc = .ok (.putfield index, 3))
    (hf : q_nm (sJ M a k x) K = rs) (kk : ∀ (M1 : q_C) (H1 : Heap) (locs1 : List Loc), q_Hh D cA z0 s Z M1 H1 locs1 → K M1 = rs → W p l e R s m args below meth c H1 locs1 cells slots Q (F0 m (pc + 3) ls rest)) : W p l e R s m args below meth c H locs cells slots Q (F0 m pc ls (.long x :: .ref a :: rest)) := by
  refine q_putF (M' := sJ M a k x) E.1 E.2.1 E.2.2.2.2.2.2.2.1 E.2.2.2.1 E.2.2.2.2.2.2.2.2 hH hc k hkN hlink hfin (E.2.2.2.2.2.2.1.trans hin2) hdecl hk hn hfit (fun b hb => ?_) (fun j hj => ?_) hdg (fun H1 locs1 hH1 => kk _ H1 locs1 hH1 hf)
  · exact ⟨by first | rfl | exact q_u2a _ _ _ _ hb, by first | rfl | exact q_u2a _ _ _ _ hb, by first | rfl | exact q_u2a _ _ _ _ hb⟩
  · by_cases h : j = k
    · subst h
      rw [hv]
      simp [updV, sJ, q_u2]
    · simp [updV, sJ, q_u2, h]
theorem q_putR (E : q_E p s m meth c cc nL own rt nm D cA) (hH : q_Hh D cA z0 s Z M H locs) {ci : Nat} {r : vw_C} (hc : vwCl[ci]? = some r) (k : Nat) (hkN : k < r.2.2)
    (hlink : Cond.fieldLink own index (r.2.1 k).1 (r.2.1 k).2.1 (r.2.1 k).2.2.1 ∈ q_gt) (hfin : (r.2.1 k).2.2.2 = false) (hv : ∀ i j q, q_fv (q_ty ci k) i j q = va_rf q) {x : Option Nat} {α : Type} {K : q_C → α} {rs : α} (hk : zK Z a = 10 + ci) (hn : narrow (q_ty ci k) (va_rf x) = va_rf x) (hfit : fits (q_ty ci k) (va_rf x) = true) (hdg : decode cc pc = .ok (.putfield index, 3))
    (hf : q_nm (sR M a k x) K = rs) (kk : ∀ (M1 : q_C) (H1 : Heap) (locs1 : List Loc), q_Hh D cA z0 s Z M1 H1 locs1 → K M1 = rs → W p l e R s m args below meth c H1 locs1 cells slots Q (F0 m (pc + 3) ls rest)) : W p l e R s m args below meth c H locs cells slots Q (F0 m pc ls (va_rf x :: .ref a :: rest)) := by
  refine q_put (M' := sR M a k x) E.1 E.2.1 E.2.2.2.2.2.2.2.1 E.2.2.2.1 E.2.2.2.2.2.2.2.2 hH hc k hkN hlink hfin hk hn hfit (fun b hb => ?_) (fun j hj => ?_) hdg (fun H1 locs1 hH1 => kk _ H1 locs1 hH1 hf)
  · exact ⟨by first | rfl | exact q_u2a _ _ _ _ hb, by first | rfl | exact q_u2a _ _ _ _ hb, by first | rfl | exact q_u2a _ _ _ _ hb⟩
  · by_cases h : j = k
    · subst h
      rw [hv]
      simp [updV, sR, q_u2]
    · simp [updV, sR, q_u2, h]
theorem q_putRN {host : String} (E : q_E p s m meth c cc nL own rt nm D cA) (hH : q_Hh D cA z0 s Z M H locs) {ci : Nat} {r : vw_C} (hc : vwCl[ci]? = some r) (k : Nat) (hkN : k < r.2.2)
    (hlink : Cond.fieldLinkNest own index (r.2.1 k).1 (r.2.1 k).2.1 (r.2.1 k).2.2.1 host ∈ lw_tbl) (hfin : (r.2.1 k).2.2.2 = false) (hv : ∀ i j q, q_fv (q_ty ci k) i j q = va_rf q) {x : Option Nat} {α : Type} {K : q_C → α} {rs : α} (hk : zK Z a = 10 + ci) (hn : narrow (q_ty ci k) (va_rf x) = va_rf x) (hfit : fits (q_ty ci k) (va_rf x) = true) (hdg : decode cc pc = .ok (.putfield index, 3))
    (hf : q_nm (sR M a k x) K = rs) (kk : ∀ (M1 : q_C) (H1 : Heap) (locs1 : List Loc), q_Hh D cA z0 s Z M1 H1 locs1 → K M1 = rs → W p l e R s m args below meth c H1 locs1 cells slots Q (F0 m (pc + 3) ls rest)) : W p l e R s m args below meth c H locs cells slots Q (F0 m pc ls (va_rf x :: .ref a :: rest)) := by
  refine q_putN (M' := sR M a k x) E.1 E.2.1 E.2.2.2.2.2.2.2.1 E.2.2.2.1 E.2.2.2.2.2.2.2.2 hH hc k hkN hlink hfin hk hn hfit (fun b hb => ?_) (fun j hj => ?_) hdg (fun H1 locs1 hH1 => kk _ H1 locs1 hH1 hf)
  · exact ⟨by first | rfl | exact q_u2a _ _ _ _ hb, by first | rfl | exact q_u2a _ _ _ _ hb, by first | rfl | exact q_u2a _ _ _ _ hb⟩
  · by_cases h : j = k
    · subst h
      rw [hv]
      simp [updV, sR, q_u2]
    · simp [updV, sR, q_u2, h]
theorem q_putRF (E : q_E p s m meth c cc nL own rt nm D cA) (hH : q_Hh D cA z0 s Z M H locs) {ci : Nat} {r : vw_C} (hc : vwCl[ci]? = some r) (k : Nat) (hkN : k < r.2.2)
    (hlink : Cond.fieldLink own index (r.2.1 k).1 (r.2.1 k).2.1 (r.2.1 k).2.2.1 ∈ q_gt) (hfin : (r.2.1 k).2.2.2 = true) (hin2 : nm = "<init>") (hdecl : (r.2.1 k).1 = own) (hv : ∀ i j q, q_fv (q_ty ci k) i j q = va_rf q) {x : Option Nat} {α : Type} {K : q_C → α} {rs : α} (hk : zK Z a = 10 + ci) (hn : narrow (q_ty ci k) (va_rf x) = va_rf x) (hfit : fits (q_ty ci k) (va_rf x) = true) (hdg : decode cc pc = .ok (.putfield index, 3))
    (hf : q_nm (sR M a k x) K = rs) (kk : ∀ (M1 : q_C) (H1 : Heap) (locs1 : List Loc), q_Hh D cA z0 s Z M1 H1 locs1 → K M1 = rs → W p l e R s m args below meth c H1 locs1 cells slots Q (F0 m (pc + 3) ls rest)) : W p l e R s m args below meth c H locs cells slots Q (F0 m pc ls (va_rf x :: .ref a :: rest)) := by
  refine q_putF (M' := sR M a k x) E.1 E.2.1 E.2.2.2.2.2.2.2.1 E.2.2.2.1 E.2.2.2.2.2.2.2.2 hH hc k hkN hlink hfin (E.2.2.2.2.2.2.1.trans hin2) hdecl hk hn hfit (fun b hb => ?_) (fun j hj => ?_) hdg (fun H1 locs1 hH1 => kk _ H1 locs1 hH1 hf)
  · exact ⟨by first | rfl | exact q_u2a _ _ _ _ hb, by first | rfl | exact q_u2a _ _ _ _ hb, by first | rfl | exact q_u2a _ _ _ _ hb⟩
  · by_cases h : j = k
    · subst h
      rw [hv]
      simp [updV, sR, q_u2]
    · simp [updV, sR, q_u2, h]
theorem q_rff (ty : FieldType) (C : String) (o : Option Nat) (h : ty = .object C ∨ ∃ t, ty = .array t) : narrow ty (va_rf o) = va_rf o ∧ fits ty (va_rf o) = true := by
  rcases h with rfl | ⟨t, rfl⟩ <;> cases o <;> exact ⟨rfl, rfl⟩
end QO
