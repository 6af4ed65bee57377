-- ===== end of PART A; then your names; then what follows =====
/-! THE CLAIM OUT OF ONE WALK OF THE LAW'S BODY. Your part is whole_start (and what it stands on); all else here is the same for every law, but numbers. -/
def R_law : String := "CometBenchLaw"
def lw_P (b : Addr) (xs : List Int32) (args : Array Value) (s : State) : Prop := args = #[.ref b] ∧ s.IntsAt b xs ∧ xs.length ≤ 3072 ∧ (Jvm.Cond.and given_1 narrow_1).before args s = true
def lw_Q (_ : Array Value) (s : State) (o : Outcome) (t : State) : Prop := o = .returned (some (.int 1)) ∧ Framed s o t [] 600000 7302250
def lw_Z (below : List Frame) (a : Array Value) (s : State) : State → Prop := fun t => ∃ o, t.status = .running ∧ Ended t below o ∧ lw_Q a s o t
/-- the law's own end, with 1 on the stack, nothing written that was there before, its room as the claim has it -/
theorem lw_ret {p : Program} {l : Launch} {e : Env} {s : State} {m : MethodId} {below : List Frame} {meth : Method} {c : Code} {b : Nat} (hx : p.tables.exec = Jvm.exec) (hb : c.code = code) (hr : meth.sig.returnType = ret) (hlocks : meth.locks = false) {pc : Nat} {H : Heap} {ls : Array Slot} (hdg : decode code pc = .ok (.ireturn, 1)) : W p l e room_1 s m #[Value.ref b] below meth c H [] 600000 7302250 (lw_Z below #[Value.ref b] s) (F0 m pc ls [.int 1]) := by
  intro T hT X
  obtain ⟨fs, hret, hrun, hended, hW, hframe⟩ := X.leave (v := some (.int 1)) (hlocks := hlocks) (fun h => by rw [hr] at h; cases h)
  have hmeth' : T.vm.method? m = some meth := X.method'
  refine ⟨T.setFrames fs, ?_, .returned (some (.int 1)), hrun, hended, rfl, ⟨_, rfl⟩, hW, hframe⟩
  jvm_step X.here [X.here.top, hx, hb, hdg, hmeth', hr, ret, narrow_b1]
  (try refine ⟨rfl, ?_⟩); (try refine ⟨rfl, ?_⟩)
  first | (intro acts; rw [hret _ acts rfl rfl rfl]) | rw [hret _ _ rfl rfl rfl]
  exact Steps.refl _
/-- what holds at the law's entry: the machine, the code, the tables' words (any of lw_tbl by 'hts w (by decide +kernel)'), the script of L ints xs at the cell b, what the Statement gives of the start (any of its parts by flat_of_before) -/
def lw_At (p : Program) (s : State) (m : MethodId) (meth : Method) (c : Code) (b L : Nat) (xs : Nat → Int32) : Prop :=
  p.tables.exec = Jvm.exec ∧ c.code = code ∧ meth.sig.returnType = ret ∧ c.maxLocals = 4 ∧ s.vm.findClass R_law = some m.cls ∧ (∀ w ∈ lw_tbl, w.before #[Value.ref b] s = true) ∧ va_X b L xs s s.heap ∧ b < s.heap.size ∧ meth.locks = false ∧ (Jvm.Cond.and given_1 narrow_1).before #[Value.ref b] s = true
def q_sx (L : Nat) (i : Int32) : Bool := !(decide (i < 0)) && decide (i.toNatClampNeg < L)
theorem q_sxE {L : Nat} {i : Int32} (h : q_sx L i = true) : vp_in i L := by
  unfold q_sx at h
  simp only [Bool.and_eq_true, Bool.not_eq_true', decide_eq_false_iff_not, decide_eq_true_eq] at h
  exact fun q => q.elim h.1 (fun q => Nat.not_le.mpr h.2 q)
theorem q_lawret {p : Program} {l : Launch} {e : Env} {s : State} {m : MethodId} {below : List Frame} {meth : Method} {c : Code} {H : Heap} {locs : List Loc} {D : va_G} {cA : Nat → ClassId} {z0 b pc x y : Nat} {ls : Array Slot} {Z : q_Z} {M : q_C} {nm : String} (E : q_E p s m meth c cL_law 4 RL ret nm D cA) (hH : q_Hh D cA z0 s Z M H locs) (hz0 : z0 = s.heap.size) (hb : x ≤ 600000 ∧ y ≤ 7302250) (hdg : decode cL_law pc = .ok (.ireturn, 1)) : W p l e room_1 s m #[Value.ref b] below meth c H locs x y (lw_Z below #[Value.ref b] s) (F0 m pc ls [.int 1]) := by
  refine va_forget (fun q hq => ?_) (W.widen (k := 600000) (n := 7302250) hb.1 hb.2 (lw_ret E.1 E.2.1 E.2.2.2.2.1 E.2.2.2.2.2.1 hdg))
  rw [← hz0]
  exact hH.2.2.2 q hq
section Q30
variable {p : Program} {l : Launch} {e : Env} {R : Room} {s : State} {m : MethodId} {args : Array Value} {below : List Frame} {meth : Method} {c : Code} {D : va_G} {cA : Nat → ClassId} {z0 : Nat}
def fL_law_b824 (b L : Nat) (xs : Nat → Int32) (v1 : Option Nat) (v2 : Option Nat) (v3 : Int32) (Z : q_Z) (M : q_C) : Option ((Int32 × q_Z × q_C) ⊕ (q_Z × q_C)) :=
  q_nm (v3 + (6 : Int32)) fun v3_28 =>
  some (Sum.inl (v3_28, Z, M))
theorem moL_law_b824 (b L : Nat) (xs : Nat → Int32) (v1 : Option Nat) (v2 : Option Nat) (v3 : Int32) (Z : q_Z) (M : q_C) (o : (Int32 × q_Z × q_C) ⊕ (q_Z × q_C)) (hf : fL_law_b824 b L xs v1 v2 v3 Z M = some o) : q_le Z (q_sm o (fun x => x.2.1) (fun x => x.1)) := by
  unfold fL_law_b824 at hf
  replace hf := q_nmE (x := _) rfl hf
  cases hf
  exact q_le.rf
set_option maxHeartbeats 4000000 in
set_option maxRecDepth 100000 in
theorem bL_law_824 {Q : State → Prop} (E : q_E p s m meth c cL_law 4 RL ret meth.name D cA) (hR : 7 ≤ room_1.frames ∧ 181 ≤ room_1.locals) (Zi : q_Z) {Z : q_Z} (hi : q_le Zi Z) {o : (Int32 × q_Z × q_C) ⊕ (q_Z × q_C)} (hbd : zS (q_sm o (fun x => x.2.1) (fun x => x.1)) - zS Zi ≤ 600000 ∧ zC (q_sm o (fun x => x.2.1) (fun x => x.1)) - zC Zi ≤ 7302250) {b L : Nat} {xs : Nat → Int32} (hz0 : z0 = s.heap.size) (hX : va_X b L xs s s.heap) (hbl : b < s.heap.size) (hbA : ¬ z0 ≤ b) (v1 : Option Nat) (v2 : Option Nat) (v3 : Int32) (M : q_C) (H : Heap) (locs : List Loc) (ls : Array Slot) (hf : fL_law_b824 b L xs v1 v2 v3 Z M = some o) (hH : q_Hh D cA z0 s Z M H locs) (hl : lv_has ls 4 [(0, .ref b), (1, va_rf v1), (2, va_rf v2), (3, .int v3)]) (kb : ∀ (w3 : Int32) (Z1 : q_Z) (M1 : q_C) (H : Heap) (locs : List Loc) (ls : Array Slot), Sum.inl (w3, Z1, M1) = o → q_Hh D cA z0 s Z1 M1 H locs → lv_has ls 4 [(0, .ref b), (1, va_rf v1), (2, va_rf v2), (3, .int w3)] → q_le Zi Z1 → W p l e room_1 s m #[Value.ref b] below meth c H locs (zS Z1 - zS Zi) (zC Z1 - zC Zi) Q (F0 m 18 ls [])) (kx0 : ∀ (Z1 : q_Z) (M1 : q_C) (H : Heap) (locs : List Loc) (ls : Array Slot), Sum.inr (Z1, M1) = o → q_Hh D cA z0 s Z1 M1 H locs → lv_has ls 4 [] → q_le Zi Z1 → W p l e room_1 s m #[Value.ref b] below meth c H locs (zS Z1 - zS Zi) (zC Z1 - zC Zi) Q (F0 m 830 ls [])) : W p l e room_1 s m #[Value.ref b] below meth c H locs (zS Z - zS Zi) (zC Z - zC Zi) Q (F0 m 824 ls []) := by
  have hx := E.1
  have hb := E.2.1
  have hown := E.2.2.2.1
  have hT := E.2.2.2.2.2.2.2.1
  have hcc := q_bd hi (moL_law_b824 _ _ _ _ _ _ _ _ _ hf) hbd
  unfold fL_law_b824 at hf
  obtain ⟨v3_28, hn_29⟩ : ∃ y : Int32, y = v3 + (6 : Int32) := ⟨_, rfl⟩
  replace hf := q_nmE hn_29 hf
  refine lv_iinc (v := v3_28) (lv' := [(3, .int v3_28), (0, .ref b), (1, va_rf v1), (2, va_rf v2)]) hx hb dL_law_824 hl (k := 3) rfl (by rw [hn_29]; rfl) (by decide) (by simp [q_rfc] <;> rfl) (fun ls hl => ?_)
  clear hn_29
  refine lv_goto (tgt := 18) hx hb dL_law_827 (by decide) ?_
  cases hf
  exact kb v3_28 Z M _ _ _ rfl hH (lv_sub hl [1, 2, 3, 0] rfl) hi
def fL_law_b173 (b L : Nat) (xs : Nat → Int32) (v1 : Option Nat) (v2 : Option Nat) (v3 : Int32) (s0 : Int32) (s1 : Option Nat) (s2 : Int32) (Z : q_Z) (M : q_C) : Option ((Int32 × q_Z × q_C) ⊕ (q_Z × q_C)) :=
  q_gd (q_sx L (v3 + (2 : Int32))) <|
  q_gd (q_sx L (v3 + (3 : Int32))) <|
  Option.bind s1 fun a_22 =>
  q_gd (zK Z a_22 == 17) <|
  q_b2 (fX7_round a_22 s0 (xs (v3 + (2 : Int32)).toNatClampNeg) (xs (v3 + (3 : Int32)).toNatClampNeg) Z M) fun r_25 M_27 =>
  if s2 = r_25 then
    fL_law_b824 b L xs v1 v2 v3 Z M_27
  else
    none
theorem moL_law_b173 (b L : Nat) (xs : Nat → Int32) (v1 : Option Nat) (v2 : Option Nat) (v3 : Int32) (s0 : Int32) (s1 : Option Nat) (s2 : Int32) (Z : q_Z) (M : q_C) (o : (Int32 × q_Z × q_C) ⊕ (q_Z × q_C)) (hf : fL_law_b173 b L xs v1 v2 v3 s0 s1 s2 Z M = some o) : q_le Z (q_sm o (fun x => x.2.1) (fun x => x.1)) := by
  unfold fL_law_b173 at hf
  obtain ⟨-, hf⟩ := q_gdE hf
  obtain ⟨-, hf⟩ := q_gdE hf
  obtain ⟨a_22, -, hf⟩ := q_biE hf
  obtain ⟨-, hf⟩ := q_gdE hf
  obtain ⟨r_25, M_27, hw_26, hf⟩ := q_b2E hf
  rcases q_ifC hf with hf | hf
  · exact moL_law_b824 _ _ _ _ _ _ _ _ _ hf
  · cases hf
set_option maxHeartbeats 4000000 in
set_option maxRecDepth 100000 in
theorem bL_law_173 {Q : State → Prop} (E : q_E p s m meth c cL_law 4 RL ret meth.name D cA) (hR : 7 ≤ room_1.frames ∧ 181 ≤ room_1.locals) (Zi : q_Z) {Z : q_Z} (hi : q_le Zi Z) {o : (Int32 × q_Z × q_C) ⊕ (q_Z × q_C)} (hbd : zS (q_sm o (fun x => x.2.1) (fun x => x.1)) - zS Zi ≤ 600000 ∧ zC (q_sm o (fun x => x.2.1) (fun x => x.1)) - zC Zi ≤ 7302250) {b L : Nat} {xs : Nat → Int32} (hz0 : z0 = s.heap.size) (hX : va_X b L xs s s.heap) (hbl : b < s.heap.size) (hbA : ¬ z0 ≤ b) (v1 : Option Nat) (v2 : Option Nat) (v3 : Int32) (s0 : Int32) (s1 : Option Nat) (s2 : Int32) (M : q_C) (H : Heap) (locs : List Loc) (ls : Array Slot) (hf : fL_law_b173 b L xs v1 v2 v3 s0 s1 s2 Z M = some o) (hH : q_Hh D cA z0 s Z M H locs) (hl : lv_has ls 4 [(0, .ref b), (1, va_rf v1), (2, va_rf v2), (3, .int v3)]) (kb : ∀ (w3 : Int32) (Z1 : q_Z) (M1 : q_C) (H : Heap) (locs : List Loc) (ls : Array Slot), Sum.inl (w3, Z1, M1) = o → q_Hh D cA z0 s Z1 M1 H locs → lv_has ls 4 [(0, .ref b), (1, va_rf v1), (2, va_rf v2), (3, .int w3)] → q_le Zi Z1 → W p l e room_1 s m #[Value.ref b] below meth c H locs (zS Z1 - zS Zi) (zC Z1 - zC Zi) Q (F0 m 18 ls [])) (kx0 : ∀ (Z1 : q_Z) (M1 : q_C) (H : Heap) (locs : List Loc) (ls : Array Slot), Sum.inr (Z1, M1) = o → q_Hh D cA z0 s Z1 M1 H locs → lv_has ls 4 [] → q_le Zi Z1 → W p l e room_1 s m #[Value.ref b] below meth c H locs (zS Z1 - zS Zi) (zC Z1 - zC Zi) Q (F0 m 830 ls [])) : W p l e room_1 s m #[Value.ref b] below meth c H locs (zS Z - zS Zi) (zC Z - zC Zi) Q (F0 m 173 ls [.int s0, va_rf s1, .int s2]) := by
  have hx := E.1
  have hb := E.2.1
  have hown := E.2.2.2.1
  have hT := E.2.2.2.2.2.2.2.1
  have hcc := q_bd hi (moL_law_b173 _ _ _ _ _ _ _ _ _ _ _ _ hf) hbd
  unfold fL_law_b173 at hf
  refine lv_aload_n hx hb dL_law_173 rfl (lv_at hl 0 rfl) ?_
  refine lv_iload_n hx hb dL_law_174 rfl (lv_at hl 3 rfl) ?_
  refine lv_iconst (v := 2) hx hb dL_law_175 (by decide) ?_
  refine lv_iadd hx hb dL_law_176 ?_
  obtain ⟨hz_20, hf⟩ := q_gdE hf
  refine va_sld hx hb hX hbl hbA hH.2 (q_sxE hz_20) dL_law_177 ?_
  refine lv_aload_n hx hb dL_law_178 rfl (lv_at hl 0 rfl) ?_
  refine lv_iload_n hx hb dL_law_179 rfl (lv_at hl 3 rfl) ?_
  refine lv_iconst (v := 3) hx hb dL_law_180 (by decide) ?_
  refine lv_iadd hx hb dL_law_181 ?_
  obtain ⟨hz_21, hf⟩ := q_gdE hf
  refine va_sld hx hb hX hbl hbA hH.2 (q_sxE hz_21) dL_law_182 ?_
  obtain ⟨a_22, he_23, hf⟩ := q_biE hf
  subst he_23
  obtain ⟨hk_24, hf⟩ := q_gdE hf
  have hk_24 := q_keq hk_24
  obtain ⟨r_25, M_27, hw_26, hf⟩ := q_b2E hf
  refine q_cV (As := [.int s0, .int (xs (v3 + (2 : Int32)).toNatClampNeg), .int (xs (v3 + (3 : Int32)).toNatClampNeg)]) (rest := [.int s2]) (st1 := [.int r_25, .int s2]) E hH (tX7_round l D cA z0 a_22 s0 (xs (v3 + (2 : Int32)).toNatClampNeg) (xs (v3 + (3 : Int32)).toNatClampNeg) Z M r_25 M_27 hw_26) mw_X7_round mi_X7_round (ci := 7) rfl ms_X7_round kM_L_17 hk_24 hcc rfl rfl rfl hl.1 rfl rfl (Nat.le_of_ble_eq_true rfl) ⟨Nat.le_trans (by decide) hR.1, Nat.le_trans (by decide) hR.2⟩ dL_law_183 (fun H locs hH => ?_)
  refine lv_icmp_eq (tgt := 824) hx hb dL_law_186 (by decide) (fun cc_30 => ?_) (fun cc_30 => ?_)
  · replace hf := q_ifT cc_30 hf
    clear cc_30
    exact bL_law_824 E hR Zi hi hbd hz0 hX hbl hbA v1 v2 v3 M_27 _ _ _  hf hH (lv_sub hl [0, 1, 2, 3] rfl) kb kx0
  · replace hf := q_ifF cc_30 hf
    clear cc_30
    cases hf
def fL_law_b146 (b L : Nat) (xs : Nat → Int32) (v1 : Option Nat) (v2 : Option Nat) (v3 : Int32) (s0 : Int32) (s1 : Option Nat) (Z : q_Z) (M : q_C) : Option ((Int32 × q_Z × q_C) ⊕ (q_Z × q_C)) :=
  q_gd (q_sx L (v3 + (2 : Int32))) <|
  q_gd (q_sx L (v3 + (3 : Int32))) <|
  Option.bind s1 fun a_13 =>
  q_gd (zK Z a_13 == 16) <|
  q_b2 (fX6_round a_13 s0 (xs (v3 + (2 : Int32)).toNatClampNeg) (xs (v3 + (3 : Int32)).toNatClampNeg) Z M) fun r_16 M_18 =>
  q_gd (q_sx L (v3 + (1 : Int32))) <|
  if xs (v3 + (1 : Int32)).toNatClampNeg = 0 then
    fL_law_b173 b L xs v1 v2 v3 (0 : Int32) v2 r_16 Z M_18
  else
    fL_law_b173 b L xs v1 v2 v3 (1 : Int32) v2 r_16 Z M_18
theorem moL_law_b146 (b L : Nat) (xs : Nat → Int32) (v1 : Option Nat) (v2 : Option Nat) (v3 : Int32) (s0 : Int32) (s1 : Option Nat) (Z : q_Z) (M : q_C) (o : (Int32 × q_Z × q_C) ⊕ (q_Z × q_C)) (hf : fL_law_b146 b L xs v1 v2 v3 s0 s1 Z M = some o) : q_le Z (q_sm o (fun x => x.2.1) (fun x => x.1)) := by
  unfold fL_law_b146 at hf
  obtain ⟨-, hf⟩ := q_gdE hf
  obtain ⟨-, hf⟩ := q_gdE hf
  obtain ⟨a_13, -, hf⟩ := q_biE hf
  obtain ⟨-, hf⟩ := q_gdE hf
  obtain ⟨r_16, M_18, hw_17, hf⟩ := q_b2E hf
  obtain ⟨-, hf⟩ := q_gdE hf
  rcases q_ifC hf with hf | hf
  · exact moL_law_b173 _ _ _ _ _ _ _ _ _ _ _ _ hf
  · exact moL_law_b173 _ _ _ _ _ _ _ _ _ _ _ _ hf
set_option maxHeartbeats 4000000 in
set_option maxRecDepth 100000 in
theorem bL_law_146 {Q : State → Prop} (E : q_E p s m meth c cL_law 4 RL ret meth.name D cA) (hR : 7 ≤ room_1.frames ∧ 181 ≤ room_1.locals) (Zi : q_Z) {Z : q_Z} (hi : q_le Zi Z) {o : (Int32 × q_Z × q_C) ⊕ (q_Z × q_C)} (hbd : zS (q_sm o (fun x => x.2.1) (fun x => x.1)) - zS Zi ≤ 600000 ∧ zC (q_sm o (fun x => x.2.1) (fun x => x.1)) - zC Zi ≤ 7302250) {b L : Nat} {xs : Nat → Int32} (hz0 : z0 = s.heap.size) (hX : va_X b L xs s s.heap) (hbl : b < s.heap.size) (hbA : ¬ z0 ≤ b) (v1 : Option Nat) (v2 : Option Nat) (v3 : Int32) (s0 : Int32) (s1 : Option Nat) (M : q_C) (H : Heap) (locs : List Loc) (ls : Array Slot) (hf : fL_law_b146 b L xs v1 v2 v3 s0 s1 Z M = some o) (hH : q_Hh D cA z0 s Z M H locs) (hl : lv_has ls 4 [(0, .ref b), (1, va_rf v1), (2, va_rf v2), (3, .int v3)]) (kb : ∀ (w3 : Int32) (Z1 : q_Z) (M1 : q_C) (H : Heap) (locs : List Loc) (ls : Array Slot), Sum.inl (w3, Z1, M1) = o → q_Hh D cA z0 s Z1 M1 H locs → lv_has ls 4 [(0, .ref b), (1, va_rf v1), (2, va_rf v2), (3, .int w3)] → q_le Zi Z1 → W p l e room_1 s m #[Value.ref b] below meth c H locs (zS Z1 - zS Zi) (zC Z1 - zC Zi) Q (F0 m 18 ls [])) (kx0 : ∀ (Z1 : q_Z) (M1 : q_C) (H : Heap) (locs : List Loc) (ls : Array Slot), Sum.inr (Z1, M1) = o → q_Hh D cA z0 s Z1 M1 H locs → lv_has ls 4 [] → q_le Zi Z1 → W p l e room_1 s m #[Value.ref b] below meth c H locs (zS Z1 - zS Zi) (zC Z1 - zC Zi) Q (F0 m 830 ls [])) : W p l e room_1 s m #[Value.ref b] below meth c H locs (zS Z - zS Zi) (zC Z - zC Zi) Q (F0 m 146 ls [.int s0, va_rf s1]) := by
  have hx := E.1
  have hb := E.2.1
  have hown := E.2.2.2.1
  have hT := E.2.2.2.2.2.2.2.1
  have hcc := q_bd hi (moL_law_b146 _ _ _ _ _ _ _ _ _ _ _ hf) hbd
  unfold fL_law_b146 at hf
  refine lv_aload_n hx hb dL_law_146 rfl (lv_at hl 0 rfl) ?_
  refine lv_iload_n hx hb dL_law_147 rfl (lv_at hl 3 rfl) ?_
  refine lv_iconst (v := 2) hx hb dL_law_148 (by decide) ?_
  refine lv_iadd hx hb dL_law_149 ?_
  obtain ⟨hz_11, hf⟩ := q_gdE hf
  refine va_sld hx hb hX hbl hbA hH.2 (q_sxE hz_11) dL_law_150 ?_
  refine lv_aload_n hx hb dL_law_151 rfl (lv_at hl 0 rfl) ?_
  refine lv_iload_n hx hb dL_law_152 rfl (lv_at hl 3 rfl) ?_
  refine lv_iconst (v := 3) hx hb dL_law_153 (by decide) ?_
  refine lv_iadd hx hb dL_law_154 ?_
  obtain ⟨hz_12, hf⟩ := q_gdE hf
  refine va_sld hx hb hX hbl hbA hH.2 (q_sxE hz_12) dL_law_155 ?_
  obtain ⟨a_13, he_14, hf⟩ := q_biE hf
  subst he_14
  obtain ⟨hk_15, hf⟩ := q_gdE hf
  have hk_15 := q_keq hk_15
  obtain ⟨r_16, M_18, hw_17, hf⟩ := q_b2E hf
  refine q_cV (As := [.int s0, .int (xs (v3 + (2 : Int32)).toNatClampNeg), .int (xs (v3 + (3 : Int32)).toNatClampNeg)]) (rest := []) (st1 := [.int r_16]) E hH (tX6_round l D cA z0 a_13 s0 (xs (v3 + (2 : Int32)).toNatClampNeg) (xs (v3 + (3 : Int32)).toNatClampNeg) Z M r_16 M_18 hw_17) mw_X6_round mi_X6_round (ci := 6) rfl ms_X6_round kM_L_13 hk_15 hcc rfl rfl rfl hl.1 rfl rfl (Nat.le_of_ble_eq_true rfl) ⟨Nat.le_trans (by decide) hR.1, Nat.le_trans (by decide) hR.2⟩ dL_law_156 (fun H locs hH => ?_)
  refine q_aload_n hx hb dL_law_159 rfl (lv_at hl 2 rfl) ?_
  refine lv_aload_n hx hb dL_law_160 rfl (lv_at hl 0 rfl) ?_
  refine lv_iload_n hx hb dL_law_161 rfl (lv_at hl 3 rfl) ?_
  refine lv_iconst (v := 1) hx hb dL_law_162 (by decide) ?_
  refine lv_iadd hx hb dL_law_163 ?_
  obtain ⟨hz_19, hf⟩ := q_gdE hf
  refine va_sld hx hb hX hbl hbA hH.2 (q_sxE hz_19) dL_law_164 ?_
  refine lv_if_eq (tgt := 172) hx hb dL_law_165 (by decide) (fun cc_31 => ?_) (fun cc_31 => ?_)
  · replace hf := q_ifT cc_31 hf
    clear cc_31
    refine lv_iconst (v := 0) hx hb dL_law_172 (by decide) ?_
    exact bL_law_173 E hR Zi hi hbd hz0 hX hbl hbA v1 v2 v3 (0 : Int32) v2 r_16 M_18 _ _ _  hf hH (lv_sub hl [0, 1, 2, 3] rfl) kb kx0
  · replace hf := q_ifF cc_31 hf
    clear cc_31
    refine lv_iconst (v := 1) hx hb dL_law_168 (by decide) ?_
    refine lv_goto (tgt := 173) hx hb dL_law_169 (by decide) ?_
    exact bL_law_173 E hR Zi hi hbd hz0 hX hbl hbA v1 v2 v3 (1 : Int32) v2 r_16 M_18 _ _ _  hf hH (lv_sub hl [0, 1, 2, 3] rfl) kb kx0
def fL_law_b413 (b L : Nat) (xs : Nat → Int32) (v1 : Nat) (v2 : Option Nat) (v3 : Int32) (s0 : Int32) (Z : q_Z) (M : q_C) : Option ((Int32 × q_Z × q_C) ⊕ (q_Z × q_C)) :=
  Option.bind v2 fun a_146 =>
  q_gd (zK Z a_146 == 17) <|
  q_b2 (fX7_keep a_146 Z M) fun r_149 M_151 =>
  if s0 = r_149 then
    fL_law_b824 b L xs (some v1) (some a_146) v3 Z M_151
  else
    none
theorem moL_law_b413 (b L : Nat) (xs : Nat → Int32) (v1 : Nat) (v2 : Option Nat) (v3 : Int32) (s0 : Int32) (Z : q_Z) (M : q_C) (o : (Int32 × q_Z × q_C) ⊕ (q_Z × q_C)) (hf : fL_law_b413 b L xs v1 v2 v3 s0 Z M = some o) : q_le Z (q_sm o (fun x => x.2.1) (fun x => x.1)) := by
  unfold fL_law_b413 at hf
  obtain ⟨a_146, -, hf⟩ := q_biE hf
  obtain ⟨-, hf⟩ := q_gdE hf
  obtain ⟨r_149, M_151, hw_150, hf⟩ := q_b2E hf
  rcases q_ifC hf with hf | hf
  · exact moL_law_b824 _ _ _ _ _ _ _ _ _ hf
  · cases hf
set_option maxHeartbeats 4000000 in
set_option maxRecDepth 100000 in
theorem bL_law_413 {Q : State → Prop} (E : q_E p s m meth c cL_law 4 RL ret meth.name D cA) (hR : 7 ≤ room_1.frames ∧ 181 ≤ room_1.locals) (Zi : q_Z) {Z : q_Z} (hi : q_le Zi Z) {o : (Int32 × q_Z × q_C) ⊕ (q_Z × q_C)} (hbd : zS (q_sm o (fun x => x.2.1) (fun x => x.1)) - zS Zi ≤ 600000 ∧ zC (q_sm o (fun x => x.2.1) (fun x => x.1)) - zC Zi ≤ 7302250) {b L : Nat} {xs : Nat → Int32} (hz0 : z0 = s.heap.size) (hX : va_X b L xs s s.heap) (hbl : b < s.heap.size) (hbA : ¬ z0 ≤ b) (v1 : Nat) (v2 : Option Nat) (v3 : Int32) (s0 : Int32) (M : q_C) (H : Heap) (locs : List Loc) (ls : Array Slot) (hf : fL_law_b413 b L xs v1 v2 v3 s0 Z M = some o) (hH : q_Hh D cA z0 s Z M H locs) (hl : lv_has ls 4 [(0, .ref b), (1, .ref v1), (2, va_rf v2), (3, .int v3)]) (kb : ∀ (w3 : Int32) (Z1 : q_Z) (M1 : q_C) (H : Heap) (locs : List Loc) (ls : Array Slot), Sum.inl (w3, Z1, M1) = o → q_Hh D cA z0 s Z1 M1 H locs → lv_has ls 4 [(0, .ref b), (1, va_rf v1), (2, va_rf v2), (3, .int w3)] → q_le Zi Z1 → W p l e room_1 s m #[Value.ref b] below meth c H locs (zS Z1 - zS Zi) (zC Z1 - zC Zi) Q (F0 m 18 ls [])) (kx0 : ∀ (Z1 : q_Z) (M1 : q_C) (H : Heap) (locs : List Loc) (ls : Array Slot), Sum.inr (Z1, M1) = o → q_Hh D cA z0 s Z1 M1 H locs → lv_has ls 4 [] → q_le Zi Z1 → W p l e room_1 s m #[Value.ref b] below meth c H locs (zS Z1 - zS Zi) (zC Z1 - zC Zi) Q (F0 m 830 ls [])) : W p l e room_1 s m #[Value.ref b] below meth c H locs (zS Z - zS Zi) (zC Z - zC Zi) Q (F0 m 413 ls [.int s0]) := by
  have hx := E.1
  have hb := E.2.1
  have hown := E.2.2.2.1
  have hT := E.2.2.2.2.2.2.2.1
  have hcc := q_bd hi (moL_law_b413 _ _ _ _ _ _ _ _ _ _ hf) hbd
  unfold fL_law_b413 at hf
  refine q_aload_n hx hb dL_law_413 rfl (lv_at hl 2 rfl) ?_
  obtain ⟨a_146, he_147, hf⟩ := q_biE hf
  subst he_147
  obtain ⟨hk_148, hf⟩ := q_gdE hf
  have hk_148 := q_keq hk_148
  obtain ⟨r_149, M_151, hw_150, hf⟩ := q_b2E hf
  refine q_cV (As := []) (rest := [.int s0]) (st1 := [.int r_149, .int s0]) E hH (tX7_keep l D cA z0 a_146 Z M r_149 M_151 hw_150) mw_X7_keep mi_X7_keep (ci := 7) rfl ms_X7_keep kM_L_50 hk_148 hcc rfl rfl rfl hl.1 rfl rfl (Nat.le_of_ble_eq_true rfl) ⟨Nat.le_trans (by decide) hR.1, Nat.le_trans (by decide) hR.2⟩ dL_law_414 (fun H locs hH => ?_)
  refine lv_icmp_eq (tgt := 824) hx hb dL_law_417 (by decide) (fun cc_152 => ?_) (fun cc_152 => ?_)
  · replace hf := q_ifT cc_152 hf
    clear cc_152
    exact bL_law_824 E hR Zi hi hbd hz0 hX hbl hbA (some v1) (some a_146) v3 M_151 _ _ _  hf hH (lv_sub hl [0, 1, 2, 3] rfl) kb kx0
  · replace hf := q_ifF cc_152 hf
    clear cc_152
    cases hf
def fL_law_b474 (b L : Nat) (xs : Nat → Int32) (v1 : Nat) (v2 : Option Nat) (v3 : Int32) (s0 : Int32) (Z : q_Z) (M : q_C) : Option ((Int32 × q_Z × q_C) ⊕ (q_Z × q_C)) :=
  q_gd (q_sx L (v3 + (1 : Int32))) <|
  q_gd (q_sx L (v3 + (2 : Int32))) <|
  q_gd (q_sx L (v3 + (3 : Int32))) <|
  Option.bind v2 fun a_181 =>
  q_gd (zK Z a_181 == 17) <|
  Option.bind (fX7_at a_181 (xs (v3 + (1 : Int32)).toNatClampNeg) (xs (v3 + (2 : Int32)).toNatClampNeg) (xs (v3 + (3 : Int32)).toNatClampNeg) Z M) fun r_184 =>
  if s0 = r_184 then
    fL_law_b824 b L xs (some v1) (some a_181) v3 Z M
  else
    none
theorem moL_law_b474 (b L : Nat) (xs : Nat → Int32) (v1 : Nat) (v2 : Option Nat) (v3 : Int32) (s0 : Int32) (Z : q_Z) (M : q_C) (o : (Int32 × q_Z × q_C) ⊕ (q_Z × q_C)) (hf : fL_law_b474 b L xs v1 v2 v3 s0 Z M = some o) : q_le Z (q_sm o (fun x => x.2.1) (fun x => x.1)) := by
  unfold fL_law_b474 at hf
  obtain ⟨-, hf⟩ := q_gdE hf
  obtain ⟨-, hf⟩ := q_gdE hf
  obtain ⟨-, hf⟩ := q_gdE hf
  obtain ⟨a_181, -, hf⟩ := q_biE hf
  obtain ⟨-, hf⟩ := q_gdE hf
  obtain ⟨r_184, hw_185, hf⟩ := q_biE hf
  rcases q_ifC hf with hf | hf
  · exact moL_law_b824 _ _ _ _ _ _ _ _ _ hf
  · cases hf
set_option maxHeartbeats 4000000 in
set_option maxRecDepth 100000 in
theorem bL_law_474 {Q : State → Prop} (E : q_E p s m meth c cL_law 4 RL ret meth.name D cA) (hR : 7 ≤ room_1.frames ∧ 181 ≤ room_1.locals) (Zi : q_Z) {Z : q_Z} (hi : q_le Zi Z) {o : (Int32 × q_Z × q_C) ⊕ (q_Z × q_C)} (hbd : zS (q_sm o (fun x => x.2.1) (fun x => x.1)) - zS Zi ≤ 600000 ∧ zC (q_sm o (fun x => x.2.1) (fun x => x.1)) - zC Zi ≤ 7302250) {b L : Nat} {xs : Nat → Int32} (hz0 : z0 = s.heap.size) (hX : va_X b L xs s s.heap) (hbl : b < s.heap.size) (hbA : ¬ z0 ≤ b) (v1 : Nat) (v2 : Option Nat) (v3 : Int32) (s0 : Int32) (M : q_C) (H : Heap) (locs : List Loc) (ls : Array Slot) (hf : fL_law_b474 b L xs v1 v2 v3 s0 Z M = some o) (hH : q_Hh D cA z0 s Z M H locs) (hl : lv_has ls 4 [(0, .ref b), (1, .ref v1), (2, va_rf v2), (3, .int v3)]) (kb : ∀ (w3 : Int32) (Z1 : q_Z) (M1 : q_C) (H : Heap) (locs : List Loc) (ls : Array Slot), Sum.inl (w3, Z1, M1) = o → q_Hh D cA z0 s Z1 M1 H locs → lv_has ls 4 [(0, .ref b), (1, va_rf v1), (2, va_rf v2), (3, .int w3)] → q_le Zi Z1 → W p l e room_1 s m #[Value.ref b] below meth c H locs (zS Z1 - zS Zi) (zC Z1 - zC Zi) Q (F0 m 18 ls [])) (kx0 : ∀ (Z1 : q_Z) (M1 : q_C) (H : Heap) (locs : List Loc) (ls : Array Slot), Sum.inr (Z1, M1) = o → q_Hh D cA z0 s Z1 M1 H locs → lv_has ls 4 [] → q_le Zi Z1 → W p l e room_1 s m #[Value.ref b] below meth c H locs (zS Z1 - zS Zi) (zC Z1 - zC Zi) Q (F0 m 830 ls [])) : W p l e room_1 s m #[Value.ref b] below meth c H locs (zS Z - zS Zi) (zC Z - zC Zi) Q (F0 m 474 ls [.int s0]) := by
  have hx := E.1
  have hb := E.2.1
  have hown := E.2.2.2.1
  have hT := E.2.2.2.2.2.2.2.1
  have hcc := q_bd hi (moL_law_b474 _ _ _ _ _ _ _ _ _ _ hf) hbd
  unfold fL_law_b474 at hf
  refine q_aload_n hx hb dL_law_474 rfl (lv_at hl 2 rfl) ?_
  refine lv_aload_n hx hb dL_law_475 rfl (lv_at hl 0 rfl) ?_
  refine lv_iload_n hx hb dL_law_476 rfl (lv_at hl 3 rfl) ?_
  refine lv_iconst (v := 1) hx hb dL_law_477 (by decide) ?_
  refine lv_iadd hx hb dL_law_478 ?_
  obtain ⟨hz_178, hf⟩ := q_gdE hf
  refine va_sld hx hb hX hbl hbA hH.2 (q_sxE hz_178) dL_law_479 ?_
  refine lv_aload_n hx hb dL_law_480 rfl (lv_at hl 0 rfl) ?_
  refine lv_iload_n hx hb dL_law_481 rfl (lv_at hl 3 rfl) ?_
  refine lv_iconst (v := 2) hx hb dL_law_482 (by decide) ?_
  refine lv_iadd hx hb dL_law_483 ?_
  obtain ⟨hz_179, hf⟩ := q_gdE hf
  refine va_sld hx hb hX hbl hbA hH.2 (q_sxE hz_179) dL_law_484 ?_
  refine lv_aload_n hx hb dL_law_485 rfl (lv_at hl 0 rfl) ?_
  refine lv_iload_n hx hb dL_law_486 rfl (lv_at hl 3 rfl) ?_
  refine lv_iconst (v := 3) hx hb dL_law_487 (by decide) ?_
  refine lv_iadd hx hb dL_law_488 ?_
  obtain ⟨hz_180, hf⟩ := q_gdE hf
  refine va_sld hx hb hX hbl hbA hH.2 (q_sxE hz_180) dL_law_489 ?_
  obtain ⟨a_181, he_182, hf⟩ := q_biE hf
  subst he_182
  obtain ⟨hk_183, hf⟩ := q_gdE hf
  have hk_183 := q_keq hk_183
  obtain ⟨r_184, hw_185, hf⟩ := q_biE hf
  refine q_cV (As := [.int (xs (v3 + (1 : Int32)).toNatClampNeg), .int (xs (v3 + (2 : Int32)).toNatClampNeg), .int (xs (v3 + (3 : Int32)).toNatClampNeg)]) (rest := [.int s0]) (st1 := [.int r_184, .int s0]) E hH (tX7_at l D cA z0 a_181 (xs (v3 + (1 : Int32)).toNatClampNeg) (xs (v3 + (2 : Int32)).toNatClampNeg) (xs (v3 + (3 : Int32)).toNatClampNeg) Z M r_184 hw_185) mw_X7_at mi_X7_at (ci := 7) rfl ms_X7_at kM_L_59 hk_183 hcc rfl rfl rfl hl.1 rfl rfl (Nat.le_of_ble_eq_true rfl) ⟨Nat.le_trans (by decide) hR.1, Nat.le_trans (by decide) hR.2⟩ dL_law_490 (fun H locs hH => ?_)
  refine lv_icmp_eq (tgt := 824) hx hb dL_law_493 (by decide) (fun cc_186 => ?_) (fun cc_186 => ?_)
  · replace hf := q_ifT cc_186 hf
    clear cc_186
    exact bL_law_824 E hR Zi hi hbd hz0 hX hbl hbA (some v1) (some a_181) v3 M _ _ _  hf hH (lv_sub hl [0, 1, 2, 3] rfl) kb kx0
  · replace hf := q_ifF cc_186 hf
    clear cc_186
    cases hf
def fL_law_b512 (b L : Nat) (xs : Nat → Int32) (v1 : Nat) (v2 : Option Nat) (v3 : Int32) (s0 : Int32) (Z : q_Z) (M : q_C) : Option ((Int32 × q_Z × q_C) ⊕ (q_Z × q_C)) :=
  q_gd (q_sx L (v3 + (1 : Int32))) <|
  q_gd (q_sx L (v3 + (2 : Int32))) <|
  Option.bind v2 fun a_198 =>
  q_gd (zK Z a_198 == 17) <|
  Option.bind (fX7_fits a_198 (xs (v3 + (1 : Int32)).toNatClampNeg) (xs (v3 + (2 : Int32)).toNatClampNeg) Z M) fun r_201 =>
  if s0 = r_201 then
    fL_law_b824 b L xs (some v1) (some a_198) v3 Z M
  else
    none
theorem moL_law_b512 (b L : Nat) (xs : Nat → Int32) (v1 : Nat) (v2 : Option Nat) (v3 : Int32) (s0 : Int32) (Z : q_Z) (M : q_C) (o : (Int32 × q_Z × q_C) ⊕ (q_Z × q_C)) (hf : fL_law_b512 b L xs v1 v2 v3 s0 Z M = some o) : q_le Z (q_sm o (fun x => x.2.1) (fun x => x.1)) := by
  unfold fL_law_b512 at hf
  obtain ⟨-, hf⟩ := q_gdE hf
  obtain ⟨-, hf⟩ := q_gdE hf
  obtain ⟨a_198, -, hf⟩ := q_biE hf
  obtain ⟨-, hf⟩ := q_gdE hf
  obtain ⟨r_201, hw_202, hf⟩ := q_biE hf
  rcases q_ifC hf with hf | hf
  · exact moL_law_b824 _ _ _ _ _ _ _ _ _ hf
  · cases hf
set_option maxHeartbeats 4000000 in
set_option maxRecDepth 100000 in
theorem bL_law_512 {Q : State → Prop} (E : q_E p s m meth c cL_law 4 RL ret meth.name D cA) (hR : 7 ≤ room_1.frames ∧ 181 ≤ room_1.locals) (Zi : q_Z) {Z : q_Z} (hi : q_le Zi Z) {o : (Int32 × q_Z × q_C) ⊕ (q_Z × q_C)} (hbd : zS (q_sm o (fun x => x.2.1) (fun x => x.1)) - zS Zi ≤ 600000 ∧ zC (q_sm o (fun x => x.2.1) (fun x => x.1)) - zC Zi ≤ 7302250) {b L : Nat} {xs : Nat → Int32} (hz0 : z0 = s.heap.size) (hX : va_X b L xs s s.heap) (hbl : b < s.heap.size) (hbA : ¬ z0 ≤ b) (v1 : Nat) (v2 : Option Nat) (v3 : Int32) (s0 : Int32) (M : q_C) (H : Heap) (locs : List Loc) (ls : Array Slot) (hf : fL_law_b512 b L xs v1 v2 v3 s0 Z M = some o) (hH : q_Hh D cA z0 s Z M H locs) (hl : lv_has ls 4 [(0, .ref b), (1, .ref v1), (2, va_rf v2), (3, .int v3)]) (kb : ∀ (w3 : Int32) (Z1 : q_Z) (M1 : q_C) (H : Heap) (locs : List Loc) (ls : Array Slot), Sum.inl (w3, Z1, M1) = o → q_Hh D cA z0 s Z1 M1 H locs → lv_has ls 4 [(0, .ref b), (1, va_rf v1), (2, va_rf v2), (3, .int w3)] → q_le Zi Z1 → W p l e room_1 s m #[Value.ref b] below meth c H locs (zS Z1 - zS Zi) (zC Z1 - zC Zi) Q (F0 m 18 ls [])) (kx0 : ∀ (Z1 : q_Z) (M1 : q_C) (H : Heap) (locs : List Loc) (ls : Array Slot), Sum.inr (Z1, M1) = o → q_Hh D cA z0 s Z1 M1 H locs → lv_has ls 4 [] → q_le Zi Z1 → W p l e room_1 s m #[Value.ref b] below meth c H locs (zS Z1 - zS Zi) (zC Z1 - zC Zi) Q (F0 m 830 ls [])) : W p l e room_1 s m #[Value.ref b] below meth c H locs (zS Z - zS Zi) (zC Z - zC Zi) Q (F0 m 512 ls [.int s0]) := by
  have hx := E.1
  have hb := E.2.1
  have hown := E.2.2.2.1
  have hT := E.2.2.2.2.2.2.2.1
  have hcc := q_bd hi (moL_law_b512 _ _ _ _ _ _ _ _ _ _ hf) hbd
  unfold fL_law_b512 at hf
  refine q_aload_n hx hb dL_law_512 rfl (lv_at hl 2 rfl) ?_
  refine lv_aload_n hx hb dL_law_513 rfl (lv_at hl 0 rfl) ?_
  refine lv_iload_n hx hb dL_law_514 rfl (lv_at hl 3 rfl) ?_
  refine lv_iconst (v := 1) hx hb dL_law_515 (by decide) ?_
  refine lv_iadd hx hb dL_law_516 ?_
  obtain ⟨hz_196, hf⟩ := q_gdE hf
  refine va_sld hx hb hX hbl hbA hH.2 (q_sxE hz_196) dL_law_517 ?_
  refine lv_aload_n hx hb dL_law_518 rfl (lv_at hl 0 rfl) ?_
  refine lv_iload_n hx hb dL_law_519 rfl (lv_at hl 3 rfl) ?_
  refine lv_iconst (v := 2) hx hb dL_law_520 (by decide) ?_
  refine lv_iadd hx hb dL_law_521 ?_
  obtain ⟨hz_197, hf⟩ := q_gdE hf
  refine va_sld hx hb hX hbl hbA hH.2 (q_sxE hz_197) dL_law_522 ?_
  obtain ⟨a_198, he_199, hf⟩ := q_biE hf
  subst he_199
  obtain ⟨hk_200, hf⟩ := q_gdE hf
  have hk_200 := q_keq hk_200
  obtain ⟨r_201, hw_202, hf⟩ := q_biE hf
  refine q_cV (As := [.int (xs (v3 + (1 : Int32)).toNatClampNeg), .int (xs (v3 + (2 : Int32)).toNatClampNeg)]) (rest := [.int s0]) (st1 := [.int r_201, .int s0]) E hH (tX7_fits l D cA z0 a_198 (xs (v3 + (1 : Int32)).toNatClampNeg) (xs (v3 + (2 : Int32)).toNatClampNeg) Z M r_201 hw_202) mw_X7_fits mi_X7_fits (ci := 7) rfl ms_X7_fits kM_L_63 hk_200 hcc rfl rfl rfl hl.1 rfl rfl (Nat.le_of_ble_eq_true rfl) ⟨Nat.le_trans (by decide) hR.1, Nat.le_trans (by decide) hR.2⟩ dL_law_523 (fun H locs hH => ?_)
  refine lv_icmp_eq (tgt := 824) hx hb dL_law_526 (by decide) (fun cc_203 => ?_) (fun cc_203 => ?_)
  · replace hf := q_ifT cc_203 hf
    clear cc_203
    exact bL_law_824 E hR Zi hi hbd hz0 hX hbl hbA (some v1) (some a_198) v3 M _ _ _  hf hH (lv_sub hl [0, 1, 2, 3] rfl) kb kx0
  · replace hf := q_ifF cc_203 hf
    clear cc_203
    cases hf
def fL_law_b540 (b L : Nat) (xs : Nat → Int32) (v1 : Nat) (v2 : Option Nat) (v3 : Int32) (s0 : Int32) (Z : q_Z) (M : q_C) : Option ((Int32 × q_Z × q_C) ⊕ (q_Z × q_C)) :=
  q_gd (q_sx L (v3 + (1 : Int32))) <|
  Option.bind v2 fun a_213 =>
  q_gd (zK Z a_213 == 17) <|
  Option.bind (fX7_fitting a_213 (xs (v3 + (1 : Int32)).toNatClampNeg) Z M) fun r_216 =>
  if s0 = r_216 then
    fL_law_b824 b L xs (some v1) (some a_213) v3 Z M
  else
    none
theorem moL_law_b540 (b L : Nat) (xs : Nat → Int32) (v1 : Nat) (v2 : Option Nat) (v3 : Int32) (s0 : Int32) (Z : q_Z) (M : q_C) (o : (Int32 × q_Z × q_C) ⊕ (q_Z × q_C)) (hf : fL_law_b540 b L xs v1 v2 v3 s0 Z M = some o) : q_le Z (q_sm o (fun x => x.2.1) (fun x => x.1)) := by
  unfold fL_law_b540 at hf
  obtain ⟨-, hf⟩ := q_gdE hf
  obtain ⟨a_213, -, hf⟩ := q_biE hf
  obtain ⟨-, hf⟩ := q_gdE hf
  obtain ⟨r_216, hw_217, hf⟩ := q_biE hf
  rcases q_ifC hf with hf | hf
  · exact moL_law_b824 _ _ _ _ _ _ _ _ _ hf
  · cases hf
set_option maxHeartbeats 4000000 in
set_option maxRecDepth 100000 in
theorem bL_law_540 {Q : State → Prop} (E : q_E p s m meth c cL_law 4 RL ret meth.name D cA) (hR : 7 ≤ room_1.frames ∧ 181 ≤ room_1.locals) (Zi : q_Z) {Z : q_Z} (hi : q_le Zi Z) {o : (Int32 × q_Z × q_C) ⊕ (q_Z × q_C)} (hbd : zS (q_sm o (fun x => x.2.1) (fun x => x.1)) - zS Zi ≤ 600000 ∧ zC (q_sm o (fun x => x.2.1) (fun x => x.1)) - zC Zi ≤ 7302250) {b L : Nat} {xs : Nat → Int32} (hz0 : z0 = s.heap.size) (hX : va_X b L xs s s.heap) (hbl : b < s.heap.size) (hbA : ¬ z0 ≤ b) (v1 : Nat) (v2 : Option Nat) (v3 : Int32) (s0 : Int32) (M : q_C) (H : Heap) (locs : List Loc) (ls : Array Slot) (hf : fL_law_b540 b L xs v1 v2 v3 s0 Z M = some o) (hH : q_Hh D cA z0 s Z M H locs) (hl : lv_has ls 4 [(0, .ref b), (1, .ref v1), (2, va_rf v2), (3, .int v3)]) (kb : ∀ (w3 : Int32) (Z1 : q_Z) (M1 : q_C) (H : Heap) (locs : List Loc) (ls : Array Slot), Sum.inl (w3, Z1, M1) = o → q_Hh D cA z0 s Z1 M1 H locs → lv_has ls 4 [(0, .ref b), (1, va_rf v1), (2, va_rf v2), (3, .int w3)] → q_le Zi Z1 → W p l e room_1 s m #[Value.ref b] below meth c H locs (zS Z1 - zS Zi) (zC Z1 - zC Zi) Q (F0 m 18 ls [])) (kx0 : ∀ (Z1 : q_Z) (M1 : q_C) (H : Heap) (locs : List Loc) (ls : Array Slot), Sum.inr (Z1, M1) = o → q_Hh D cA z0 s Z1 M1 H locs → lv_has ls 4 [] → q_le Zi Z1 → W p l e room_1 s m #[Value.ref b] below meth c H locs (zS Z1 - zS Zi) (zC Z1 - zC Zi) Q (F0 m 830 ls [])) : W p l e room_1 s m #[Value.ref b] below meth c H locs (zS Z - zS Zi) (zC Z - zC Zi) Q (F0 m 540 ls [.int s0]) := by
  have hx := E.1
  have hb := E.2.1
  have hown := E.2.2.2.1
  have hT := E.2.2.2.2.2.2.2.1
  have hcc := q_bd hi (moL_law_b540 _ _ _ _ _ _ _ _ _ _ hf) hbd
  unfold fL_law_b540 at hf
  refine q_aload_n hx hb dL_law_540 rfl (lv_at hl 2 rfl) ?_
  refine lv_aload_n hx hb dL_law_541 rfl (lv_at hl 0 rfl) ?_
  refine lv_iload_n hx hb dL_law_542 rfl (lv_at hl 3 rfl) ?_
  refine lv_iconst (v := 1) hx hb dL_law_543 (by decide) ?_
  refine lv_iadd hx hb dL_law_544 ?_
  obtain ⟨hz_212, hf⟩ := q_gdE hf
  refine va_sld hx hb hX hbl hbA hH.2 (q_sxE hz_212) dL_law_545 ?_
  obtain ⟨a_213, he_214, hf⟩ := q_biE hf
  subst he_214
  obtain ⟨hk_215, hf⟩ := q_gdE hf
  have hk_215 := q_keq hk_215
  obtain ⟨r_216, hw_217, hf⟩ := q_biE hf
  refine q_cV (As := [.int (xs (v3 + (1 : Int32)).toNatClampNeg)]) (rest := [.int s0]) (st1 := [.int r_216, .int s0]) E hH (tX7_fitting l D cA z0 a_213 (xs (v3 + (1 : Int32)).toNatClampNeg) Z M r_216 hw_217) mw_X7_fitting mi_X7_fitting (ci := 7) rfl ms_X7_fitting kM_L_68 hk_215 hcc rfl rfl rfl hl.1 rfl rfl (Nat.le_of_ble_eq_true rfl) ⟨Nat.le_trans (by decide) hR.1, Nat.le_trans (by decide) hR.2⟩ dL_law_546 (fun H locs hH => ?_)
  refine lv_icmp_eq (tgt := 824) hx hb dL_law_549 (by decide) (fun cc_218 => ?_) (fun cc_218 => ?_)
  · replace hf := q_ifT cc_218 hf
    clear cc_218
    exact bL_law_824 E hR Zi hi hbd hz0 hX hbl hbA (some v1) (some a_213) v3 M _ _ _  hf hH (lv_sub hl [0, 1, 2, 3] rfl) kb kx0
  · replace hf := q_ifF cc_218 hf
    clear cc_218
    cases hf
def fL_law_b563 (b L : Nat) (xs : Nat → Int32) (v1 : Nat) (v2 : Option Nat) (v3 : Int32) (s0 : Int32) (Z : q_Z) (M : q_C) : Option ((Int32 × q_Z × q_C) ⊕ (q_Z × q_C)) :=
  q_gd (q_sx L (v3 + (1 : Int32))) <|
  Option.bind v2 fun a_228 =>
  q_gd (zK Z a_228 == 17) <|
  q_b2 (fX7_without a_228 (xs (v3 + (1 : Int32)).toNatClampNeg) Z M) fun r_231 M_233 =>
  if s0 = r_231 then
    fL_law_b824 b L xs (some v1) (some a_228) v3 Z M_233
  else
    none
theorem moL_law_b563 (b L : Nat) (xs : Nat → Int32) (v1 : Nat) (v2 : Option Nat) (v3 : Int32) (s0 : Int32) (Z : q_Z) (M : q_C) (o : (Int32 × q_Z × q_C) ⊕ (q_Z × q_C)) (hf : fL_law_b563 b L xs v1 v2 v3 s0 Z M = some o) : q_le Z (q_sm o (fun x => x.2.1) (fun x => x.1)) := by
  unfold fL_law_b563 at hf
  obtain ⟨-, hf⟩ := q_gdE hf
  obtain ⟨a_228, -, hf⟩ := q_biE hf
  obtain ⟨-, hf⟩ := q_gdE hf
  obtain ⟨r_231, M_233, hw_232, hf⟩ := q_b2E hf
  rcases q_ifC hf with hf | hf
  · exact moL_law_b824 _ _ _ _ _ _ _ _ _ hf
  · cases hf
set_option maxHeartbeats 4000000 in
set_option maxRecDepth 100000 in
theorem bL_law_563 {Q : State → Prop} (E : q_E p s m meth c cL_law 4 RL ret meth.name D cA) (hR : 7 ≤ room_1.frames ∧ 181 ≤ room_1.locals) (Zi : q_Z) {Z : q_Z} (hi : q_le Zi Z) {o : (Int32 × q_Z × q_C) ⊕ (q_Z × q_C)} (hbd : zS (q_sm o (fun x => x.2.1) (fun x => x.1)) - zS Zi ≤ 600000 ∧ zC (q_sm o (fun x => x.2.1) (fun x => x.1)) - zC Zi ≤ 7302250) {b L : Nat} {xs : Nat → Int32} (hz0 : z0 = s.heap.size) (hX : va_X b L xs s s.heap) (hbl : b < s.heap.size) (hbA : ¬ z0 ≤ b) (v1 : Nat) (v2 : Option Nat) (v3 : Int32) (s0 : Int32) (M : q_C) (H : Heap) (locs : List Loc) (ls : Array Slot) (hf : fL_law_b563 b L xs v1 v2 v3 s0 Z M = some o) (hH : q_Hh D cA z0 s Z M H locs) (hl : lv_has ls 4 [(0, .ref b), (1, .ref v1), (2, va_rf v2), (3, .int v3)]) (kb : ∀ (w3 : Int32) (Z1 : q_Z) (M1 : q_C) (H : Heap) (locs : List Loc) (ls : Array Slot), Sum.inl (w3, Z1, M1) = o → q_Hh D cA z0 s Z1 M1 H locs → lv_has ls 4 [(0, .ref b), (1, va_rf v1), (2, va_rf v2), (3, .int w3)] → q_le Zi Z1 → W p l e room_1 s m #[Value.ref b] below meth c H locs (zS Z1 - zS Zi) (zC Z1 - zC Zi) Q (F0 m 18 ls [])) (kx0 : ∀ (Z1 : q_Z) (M1 : q_C) (H : Heap) (locs : List Loc) (ls : Array Slot), Sum.inr (Z1, M1) = o → q_Hh D cA z0 s Z1 M1 H locs → lv_has ls 4 [] → q_le Zi Z1 → W p l e room_1 s m #[Value.ref b] below meth c H locs (zS Z1 - zS Zi) (zC Z1 - zC Zi) Q (F0 m 830 ls [])) : W p l e room_1 s m #[Value.ref b] below meth c H locs (zS Z - zS Zi) (zC Z - zC Zi) Q (F0 m 563 ls [.int s0]) := by
  have hx := E.1
  have hb := E.2.1
  have hown := E.2.2.2.1
  have hT := E.2.2.2.2.2.2.2.1
  have hcc := q_bd hi (moL_law_b563 _ _ _ _ _ _ _ _ _ _ hf) hbd
  unfold fL_law_b563 at hf
  refine q_aload_n hx hb dL_law_563 rfl (lv_at hl 2 rfl) ?_
  refine lv_aload_n hx hb dL_law_564 rfl (lv_at hl 0 rfl) ?_
  refine lv_iload_n hx hb dL_law_565 rfl (lv_at hl 3 rfl) ?_
  refine lv_iconst (v := 1) hx hb dL_law_566 (by decide) ?_
  refine lv_iadd hx hb dL_law_567 ?_
  obtain ⟨hz_227, hf⟩ := q_gdE hf
  refine va_sld hx hb hX hbl hbA hH.2 (q_sxE hz_227) dL_law_568 ?_
  obtain ⟨a_228, he_229, hf⟩ := q_biE hf
  subst he_229
  obtain ⟨hk_230, hf⟩ := q_gdE hf
  have hk_230 := q_keq hk_230
  obtain ⟨r_231, M_233, hw_232, hf⟩ := q_b2E hf
  refine q_cV (As := [.int (xs (v3 + (1 : Int32)).toNatClampNeg)]) (rest := [.int s0]) (st1 := [.int r_231, .int s0]) E hH (tX7_without l D cA z0 a_228 (xs (v3 + (1 : Int32)).toNatClampNeg) Z M r_231 M_233 hw_232) mw_X7_without mi_X7_without (ci := 7) rfl ms_X7_without kM_L_72 hk_230 hcc rfl rfl rfl hl.1 rfl rfl (Nat.le_of_ble_eq_true rfl) ⟨Nat.le_trans (by decide) hR.1, Nat.le_trans (by decide) hR.2⟩ dL_law_569 (fun H locs hH => ?_)
  refine lv_icmp_eq (tgt := 824) hx hb dL_law_572 (by decide) (fun cc_234 => ?_) (fun cc_234 => ?_)
  · replace hf := q_ifT cc_234 hf
    clear cc_234
    exact bL_law_824 E hR Zi hi hbd hz0 hX hbl hbA (some v1) (some a_228) v3 M_233 _ _ _  hf hH (lv_sub hl [0, 1, 2, 3] rfl) kb kx0
  · replace hf := q_ifF cc_234 hf
    clear cc_234
    cases hf
def fL_law_b586 (b L : Nat) (xs : Nat → Int32) (v1 : Nat) (v2 : Option Nat) (v3 : Int32) (s0 : Int32) (Z : q_Z) (M : q_C) : Option ((Int32 × q_Z × q_C) ⊕ (q_Z × q_C)) :=
  q_gd (q_sx L (v3 + (1 : Int32))) <|
  Option.bind v2 fun a_244 =>
  q_gd (zK Z a_244 == 17) <|
  Option.bind (fX7_patch a_244 (xs (v3 + (1 : Int32)).toNatClampNeg) Z M) fun r_247 =>
  if s0 = r_247 then
    fL_law_b824 b L xs (some v1) (some a_244) v3 Z M
  else
    none
theorem moL_law_b586 (b L : Nat) (xs : Nat → Int32) (v1 : Nat) (v2 : Option Nat) (v3 : Int32) (s0 : Int32) (Z : q_Z) (M : q_C) (o : (Int32 × q_Z × q_C) ⊕ (q_Z × q_C)) (hf : fL_law_b586 b L xs v1 v2 v3 s0 Z M = some o) : q_le Z (q_sm o (fun x => x.2.1) (fun x => x.1)) := by
  unfold fL_law_b586 at hf
  obtain ⟨-, hf⟩ := q_gdE hf
  obtain ⟨a_244, -, hf⟩ := q_biE hf
  obtain ⟨-, hf⟩ := q_gdE hf
  obtain ⟨r_247, hw_248, hf⟩ := q_biE hf
  rcases q_ifC hf with hf | hf
  · exact moL_law_b824 _ _ _ _ _ _ _ _ _ hf
  · cases hf
set_option maxHeartbeats 4000000 in
set_option maxRecDepth 100000 in
theorem bL_law_586 {Q : State → Prop} (E : q_E p s m meth c cL_law 4 RL ret meth.name D cA) (hR : 7 ≤ room_1.frames ∧ 181 ≤ room_1.locals) (Zi : q_Z) {Z : q_Z} (hi : q_le Zi Z) {o : (Int32 × q_Z × q_C) ⊕ (q_Z × q_C)} (hbd : zS (q_sm o (fun x => x.2.1) (fun x => x.1)) - zS Zi ≤ 600000 ∧ zC (q_sm o (fun x => x.2.1) (fun x => x.1)) - zC Zi ≤ 7302250) {b L : Nat} {xs : Nat → Int32} (hz0 : z0 = s.heap.size) (hX : va_X b L xs s s.heap) (hbl : b < s.heap.size) (hbA : ¬ z0 ≤ b) (v1 : Nat) (v2 : Option Nat) (v3 : Int32) (s0 : Int32) (M : q_C) (H : Heap) (locs : List Loc) (ls : Array Slot) (hf : fL_law_b586 b L xs v1 v2 v3 s0 Z M = some o) (hH : q_Hh D cA z0 s Z M H locs) (hl : lv_has ls 4 [(0, .ref b), (1, .ref v1), (2, va_rf v2), (3, .int v3)]) (kb : ∀ (w3 : Int32) (Z1 : q_Z) (M1 : q_C) (H : Heap) (locs : List Loc) (ls : Array Slot), Sum.inl (w3, Z1, M1) = o → q_Hh D cA z0 s Z1 M1 H locs → lv_has ls 4 [(0, .ref b), (1, va_rf v1), (2, va_rf v2), (3, .int w3)] → q_le Zi Z1 → W p l e room_1 s m #[Value.ref b] below meth c H locs (zS Z1 - zS Zi) (zC Z1 - zC Zi) Q (F0 m 18 ls [])) (kx0 : ∀ (Z1 : q_Z) (M1 : q_C) (H : Heap) (locs : List Loc) (ls : Array Slot), Sum.inr (Z1, M1) = o → q_Hh D cA z0 s Z1 M1 H locs → lv_has ls 4 [] → q_le Zi Z1 → W p l e room_1 s m #[Value.ref b] below meth c H locs (zS Z1 - zS Zi) (zC Z1 - zC Zi) Q (F0 m 830 ls [])) : W p l e room_1 s m #[Value.ref b] below meth c H locs (zS Z - zS Zi) (zC Z - zC Zi) Q (F0 m 586 ls [.int s0]) := by
  have hx := E.1
  have hb := E.2.1
  have hown := E.2.2.2.1
  have hT := E.2.2.2.2.2.2.2.1
  have hcc := q_bd hi (moL_law_b586 _ _ _ _ _ _ _ _ _ _ hf) hbd
  unfold fL_law_b586 at hf
  refine q_aload_n hx hb dL_law_586 rfl (lv_at hl 2 rfl) ?_
  refine lv_aload_n hx hb dL_law_587 rfl (lv_at hl 0 rfl) ?_
  refine lv_iload_n hx hb dL_law_588 rfl (lv_at hl 3 rfl) ?_
  refine lv_iconst (v := 1) hx hb dL_law_589 (by decide) ?_
  refine lv_iadd hx hb dL_law_590 ?_
  obtain ⟨hz_243, hf⟩ := q_gdE hf
  refine va_sld hx hb hX hbl hbA hH.2 (q_sxE hz_243) dL_law_591 ?_
  obtain ⟨a_244, he_245, hf⟩ := q_biE hf
  subst he_245
  obtain ⟨hk_246, hf⟩ := q_gdE hf
  have hk_246 := q_keq hk_246
  obtain ⟨r_247, hw_248, hf⟩ := q_biE hf
  refine q_cV (As := [.int (xs (v3 + (1 : Int32)).toNatClampNeg)]) (rest := [.int s0]) (st1 := [.int r_247, .int s0]) E hH (tX7_patch l D cA z0 a_244 (xs (v3 + (1 : Int32)).toNatClampNeg) Z M r_247 hw_248) mw_X7_patch mi_X7_patch (ci := 7) rfl ms_X7_patch kM_L_76 hk_246 hcc rfl rfl rfl hl.1 rfl rfl (Nat.le_of_ble_eq_true rfl) ⟨Nat.le_trans (by decide) hR.1, Nat.le_trans (by decide) hR.2⟩ dL_law_592 (fun H locs hH => ?_)
  refine lv_icmp_eq (tgt := 824) hx hb dL_law_595 (by decide) (fun cc_249 => ?_) (fun cc_249 => ?_)
  · replace hf := q_ifT cc_249 hf
    clear cc_249
    exact bL_law_824 E hR Zi hi hbd hz0 hX hbl hbA (some v1) (some a_244) v3 M _ _ _  hf hH (lv_sub hl [0, 1, 2, 3] rfl) kb kx0
  · replace hf := q_ifF cc_249 hf
    clear cc_249
    cases hf
def fL_law_b641 (b L : Nat) (xs : Nat → Int32) (v1 : Option Nat) (v2 : Option Nat) (v3 : Int32) (s0 : Int32) (s1 : Int32) (s2 : Option Nat) (s3 : Int32) (Z : q_Z) (M : q_C) : Option ((Int32 × q_Z × q_C) ⊕ (q_Z × q_C)) :=
  Option.bind s2 fun a_261 =>
  q_gd (zK Z a_261 == 17) <|
  Option.bind (fX7_side a_261 s1 s0 Z M) fun r_264 =>
  if s3 = r_264 then
    fL_law_b824 b L xs v1 v2 v3 Z M
  else
    none
theorem moL_law_b641 (b L : Nat) (xs : Nat → Int32) (v1 : Option Nat) (v2 : Option Nat) (v3 : Int32) (s0 : Int32) (s1 : Int32) (s2 : Option Nat) (s3 : Int32) (Z : q_Z) (M : q_C) (o : (Int32 × q_Z × q_C) ⊕ (q_Z × q_C)) (hf : fL_law_b641 b L xs v1 v2 v3 s0 s1 s2 s3 Z M = some o) : q_le Z (q_sm o (fun x => x.2.1) (fun x => x.1)) := by
  unfold fL_law_b641 at hf
  obtain ⟨a_261, -, hf⟩ := q_biE hf
  obtain ⟨-, hf⟩ := q_gdE hf
  obtain ⟨r_264, hw_265, hf⟩ := q_biE hf
  rcases q_ifC hf with hf | hf
  · exact moL_law_b824 _ _ _ _ _ _ _ _ _ hf
  · cases hf
set_option maxHeartbeats 4000000 in
set_option maxRecDepth 100000 in
theorem bL_law_641 {Q : State → Prop} (E : q_E p s m meth c cL_law 4 RL ret meth.name D cA) (hR : 7 ≤ room_1.frames ∧ 181 ≤ room_1.locals) (Zi : q_Z) {Z : q_Z} (hi : q_le Zi Z) {o : (Int32 × q_Z × q_C) ⊕ (q_Z × q_C)} (hbd : zS (q_sm o (fun x => x.2.1) (fun x => x.1)) - zS Zi ≤ 600000 ∧ zC (q_sm o (fun x => x.2.1) (fun x => x.1)) - zC Zi ≤ 7302250) {b L : Nat} {xs : Nat → Int32} (hz0 : z0 = s.heap.size) (hX : va_X b L xs s s.heap) (hbl : b < s.heap.size) (hbA : ¬ z0 ≤ b) (v1 : Option Nat) (v2 : Option Nat) (v3 : Int32) (s0 : Int32) (s1 : Int32) (s2 : Option Nat) (s3 : Int32) (M : q_C) (H : Heap) (locs : List Loc) (ls : Array Slot) (hf : fL_law_b641 b L xs v1 v2 v3 s0 s1 s2 s3 Z M = some o) (hH : q_Hh D cA z0 s Z M H locs) (hl : lv_has ls 4 [(0, .ref b), (1, va_rf v1), (2, va_rf v2), (3, .int v3)]) (kb : ∀ (w3 : Int32) (Z1 : q_Z) (M1 : q_C) (H : Heap) (locs : List Loc) (ls : Array Slot), Sum.inl (w3, Z1, M1) = o → q_Hh D cA z0 s Z1 M1 H locs → lv_has ls 4 [(0, .ref b), (1, va_rf v1), (2, va_rf v2), (3, .int w3)] → q_le Zi Z1 → W p l e room_1 s m #[Value.ref b] below meth c H locs (zS Z1 - zS Zi) (zC Z1 - zC Zi) Q (F0 m 18 ls [])) (kx0 : ∀ (Z1 : q_Z) (M1 : q_C) (H : Heap) (locs : List Loc) (ls : Array Slot), Sum.inr (Z1, M1) = o → q_Hh D cA z0 s Z1 M1 H locs → lv_has ls 4 [] → q_le Zi Z1 → W p l e room_1 s m #[Value.ref b] below meth c H locs (zS Z1 - zS Zi) (zC Z1 - zC Zi) Q (F0 m 830 ls [])) : W p l e room_1 s m #[Value.ref b] below meth c H locs (zS Z - zS Zi) (zC Z - zC Zi) Q (F0 m 641 ls [.int s0, .int s1, va_rf s2, .int s3]) := by
  have hx := E.1
  have hb := E.2.1
  have hown := E.2.2.2.1
  have hT := E.2.2.2.2.2.2.2.1
  have hcc := q_bd hi (moL_law_b641 _ _ _ _ _ _ _ _ _ _ _ _ _ hf) hbd
  unfold fL_law_b641 at hf
  obtain ⟨a_261, he_262, hf⟩ := q_biE hf
  subst he_262
  obtain ⟨hk_263, hf⟩ := q_gdE hf
  have hk_263 := q_keq hk_263
  obtain ⟨r_264, hw_265, hf⟩ := q_biE hf
  refine q_cV (As := [.int s1, .int s0]) (rest := [.int s3]) (st1 := [.int r_264, .int s3]) E hH (tX7_side l D cA z0 a_261 s1 s0 Z M r_264 hw_265) mw_X7_side mi_X7_side (ci := 7) rfl ms_X7_side kM_L_81 hk_263 hcc rfl rfl rfl hl.1 rfl rfl (Nat.le_of_ble_eq_true rfl) ⟨Nat.le_trans (by decide) hR.1, Nat.le_trans (by decide) hR.2⟩ dL_law_641 (fun H locs hH => ?_)
  refine lv_icmp_eq (tgt := 824) hx hb dL_law_644 (by decide) (fun cc_266 => ?_) (fun cc_266 => ?_)
  · replace hf := q_ifT cc_266 hf
    clear cc_266
    exact bL_law_824 E hR Zi hi hbd hz0 hX hbl hbA v1 v2 v3 M _ _ _  hf hH (lv_sub hl [0, 1, 2, 3] rfl) kb kx0
  · replace hf := q_ifF cc_266 hf
    clear cc_266
    cases hf
def fL_law_b622 (b L : Nat) (xs : Nat → Int32) (v1 : Option Nat) (v2 : Option Nat) (v3 : Int32) (s0 : Int32) (Z : q_Z) (M : q_C) : Option ((Int32 × q_Z × q_C) ⊕ (q_Z × q_C)) :=
  q_gd (q_sx L (v3 + (1 : Int32))) <|
  q_gd (q_sx L (v3 + (2 : Int32))) <|
  if xs (v3 + (2 : Int32)).toNatClampNeg = 0 then
    fL_law_b641 b L xs v1 v2 v3 (0 : Int32) (xs (v3 + (1 : Int32)).toNatClampNeg) v2 s0 Z M
  else
    fL_law_b641 b L xs v1 v2 v3 (1 : Int32) (xs (v3 + (1 : Int32)).toNatClampNeg) v2 s0 Z M
theorem moL_law_b622 (b L : Nat) (xs : Nat → Int32) (v1 : Option Nat) (v2 : Option Nat) (v3 : Int32) (s0 : Int32) (Z : q_Z) (M : q_C) (o : (Int32 × q_Z × q_C) ⊕ (q_Z × q_C)) (hf : fL_law_b622 b L xs v1 v2 v3 s0 Z M = some o) : q_le Z (q_sm o (fun x => x.2.1) (fun x => x.1)) := by
  unfold fL_law_b622 at hf
  obtain ⟨-, hf⟩ := q_gdE hf
  obtain ⟨-, hf⟩ := q_gdE hf
  rcases q_ifC hf with hf | hf
  · exact moL_law_b641 _ _ _ _ _ _ _ _ _ _ _ _ _ hf
  · exact moL_law_b641 _ _ _ _ _ _ _ _ _ _ _ _ _ hf
set_option maxHeartbeats 4000000 in
set_option maxRecDepth 100000 in
theorem bL_law_622 {Q : State → Prop} (E : q_E p s m meth c cL_law 4 RL ret meth.name D cA) (hR : 7 ≤ room_1.frames ∧ 181 ≤ room_1.locals) (Zi : q_Z) {Z : q_Z} (hi : q_le Zi Z) {o : (Int32 × q_Z × q_C) ⊕ (q_Z × q_C)} (hbd : zS (q_sm o (fun x => x.2.1) (fun x => x.1)) - zS Zi ≤ 600000 ∧ zC (q_sm o (fun x => x.2.1) (fun x => x.1)) - zC Zi ≤ 7302250) {b L : Nat} {xs : Nat → Int32} (hz0 : z0 = s.heap.size) (hX : va_X b L xs s s.heap) (hbl : b < s.heap.size) (hbA : ¬ z0 ≤ b) (v1 : Option Nat) (v2 : Option Nat) (v3 : Int32) (s0 : Int32) (M : q_C) (H : Heap) (locs : List Loc) (ls : Array Slot) (hf : fL_law_b622 b L xs v1 v2 v3 s0 Z M = some o) (hH : q_Hh D cA z0 s Z M H locs) (hl : lv_has ls 4 [(0, .ref b), (1, va_rf v1), (2, va_rf v2), (3, .int v3)]) (kb : ∀ (w3 : Int32) (Z1 : q_Z) (M1 : q_C) (H : Heap) (locs : List Loc) (ls : Array Slot), Sum.inl (w3, Z1, M1) = o → q_Hh D cA z0 s Z1 M1 H locs → lv_has ls 4 [(0, .ref b), (1, va_rf v1), (2, va_rf v2), (3, .int w3)] → q_le Zi Z1 → W p l e room_1 s m #[Value.ref b] below meth c H locs (zS Z1 - zS Zi) (zC Z1 - zC Zi) Q (F0 m 18 ls [])) (kx0 : ∀ (Z1 : q_Z) (M1 : q_C) (H : Heap) (locs : List Loc) (ls : Array Slot), Sum.inr (Z1, M1) = o → q_Hh D cA z0 s Z1 M1 H locs → lv_has ls 4 [] → q_le Zi Z1 → W p l e room_1 s m #[Value.ref b] below meth c H locs (zS Z1 - zS Zi) (zC Z1 - zC Zi) Q (F0 m 830 ls [])) : W p l e room_1 s m #[Value.ref b] below meth c H locs (zS Z - zS Zi) (zC Z - zC Zi) Q (F0 m 622 ls [.int s0]) := by
  have hx := E.1
  have hb := E.2.1
  have hown := E.2.2.2.1
  have hT := E.2.2.2.2.2.2.2.1
  have hcc := q_bd hi (moL_law_b622 _ _ _ _ _ _ _ _ _ _ hf) hbd
  unfold fL_law_b622 at hf
  refine q_aload_n hx hb dL_law_622 rfl (lv_at hl 2 rfl) ?_
  refine lv_aload_n hx hb dL_law_623 rfl (lv_at hl 0 rfl) ?_
  refine lv_iload_n hx hb dL_law_624 rfl (lv_at hl 3 rfl) ?_
  refine lv_iconst (v := 1) hx hb dL_law_625 (by decide) ?_
  refine lv_iadd hx hb dL_law_626 ?_
  obtain ⟨hz_259, hf⟩ := q_gdE hf
  refine va_sld hx hb hX hbl hbA hH.2 (q_sxE hz_259) dL_law_627 ?_
  refine lv_aload_n hx hb dL_law_628 rfl (lv_at hl 0 rfl) ?_
  refine lv_iload_n hx hb dL_law_629 rfl (lv_at hl 3 rfl) ?_
  refine lv_iconst (v := 2) hx hb dL_law_630 (by decide) ?_
  refine lv_iadd hx hb dL_law_631 ?_
  obtain ⟨hz_260, hf⟩ := q_gdE hf
  refine va_sld hx hb hX hbl hbA hH.2 (q_sxE hz_260) dL_law_632 ?_
  refine lv_if_eq (tgt := 640) hx hb dL_law_633 (by decide) (fun cc_267 => ?_) (fun cc_267 => ?_)
  · replace hf := q_ifT cc_267 hf
    clear cc_267
    refine lv_iconst (v := 0) hx hb dL_law_640 (by decide) ?_
    exact bL_law_641 E hR Zi hi hbd hz0 hX hbl hbA v1 v2 v3 (0 : Int32) (xs (v3 + (1 : Int32)).toNatClampNeg) v2 s0 M _ _ _  hf hH (lv_sub hl [0, 1, 2, 3] rfl) kb kx0
  · replace hf := q_ifF cc_267 hf
    clear cc_267
    refine lv_iconst (v := 1) hx hb dL_law_636 (by decide) ?_
    refine lv_goto (tgt := 641) hx hb dL_law_637 (by decide) ?_
    exact bL_law_641 E hR Zi hi hbd hz0 hX hbl hbA v1 v2 v3 (1 : Int32) (xs (v3 + (1 : Int32)).toNatClampNeg) v2 s0 M _ _ _  hf hH (lv_sub hl [0, 1, 2, 3] rfl) kb kx0
def fL_law_b619 (b L : Nat) (xs : Nat → Int32) (v1 : Option Nat) (v2 : Option Nat) (v3 : Int32) (s0 : Int32) (s1 : Int32) (s2 : Option Nat) (Z : q_Z) (M : q_C) : Option ((Int32 × q_Z × q_C) ⊕ (q_Z × q_C)) :=
  Option.bind s2 fun a_252 =>
  q_gd (zK Z a_252 == 16) <|
  q_b3 (fX6_side a_252 s1 s0 Z M) fun r_255 Z_258 M_257 =>
  fL_law_b622 b L xs v1 v2 v3 r_255 Z_258 M_257
theorem moL_law_b619 (b L : Nat) (xs : Nat → Int32) (v1 : Option Nat) (v2 : Option Nat) (v3 : Int32) (s0 : Int32) (s1 : Int32) (s2 : Option Nat) (Z : q_Z) (M : q_C) (o : (Int32 × q_Z × q_C) ⊕ (q_Z × q_C)) (hf : fL_law_b619 b L xs v1 v2 v3 s0 s1 s2 Z M = some o) : q_le Z (q_sm o (fun x => x.2.1) (fun x => x.1)) := by
  unfold fL_law_b619 at hf
  obtain ⟨a_252, -, hf⟩ := q_biE hf
  obtain ⟨-, hf⟩ := q_gdE hf
  obtain ⟨r_255, Z_258, M_257, hw_256, hf⟩ := q_b3E hf
  have hq := moX6_side _ _ _ _ _ _ _ _ hw_256
  exact hq.tr (moL_law_b622 _ _ _ _ _ _ _ _ _ _ hf)
set_option maxHeartbeats 4000000 in
set_option maxRecDepth 100000 in
theorem bL_law_619 {Q : State → Prop} (E : q_E p s m meth c cL_law 4 RL ret meth.name D cA) (hR : 7 ≤ room_1.frames ∧ 181 ≤ room_1.locals) (Zi : q_Z) {Z : q_Z} (hi : q_le Zi Z) {o : (Int32 × q_Z × q_C) ⊕ (q_Z × q_C)} (hbd : zS (q_sm o (fun x => x.2.1) (fun x => x.1)) - zS Zi ≤ 600000 ∧ zC (q_sm o (fun x => x.2.1) (fun x => x.1)) - zC Zi ≤ 7302250) {b L : Nat} {xs : Nat → Int32} (hz0 : z0 = s.heap.size) (hX : va_X b L xs s s.heap) (hbl : b < s.heap.size) (hbA : ¬ z0 ≤ b) (v1 : Option Nat) (v2 : Option Nat) (v3 : Int32) (s0 : Int32) (s1 : Int32) (s2 : Option Nat) (M : q_C) (H : Heap) (locs : List Loc) (ls : Array Slot) (hf : fL_law_b619 b L xs v1 v2 v3 s0 s1 s2 Z M = some o) (hH : q_Hh D cA z0 s Z M H locs) (hl : lv_has ls 4 [(0, .ref b), (1, va_rf v1), (2, va_rf v2), (3, .int v3)]) (kb : ∀ (w3 : Int32) (Z1 : q_Z) (M1 : q_C) (H : Heap) (locs : List Loc) (ls : Array Slot), Sum.inl (w3, Z1, M1) = o → q_Hh D cA z0 s Z1 M1 H locs → lv_has ls 4 [(0, .ref b), (1, va_rf v1), (2, va_rf v2), (3, .int w3)] → q_le Zi Z1 → W p l e room_1 s m #[Value.ref b] below meth c H locs (zS Z1 - zS Zi) (zC Z1 - zC Zi) Q (F0 m 18 ls [])) (kx0 : ∀ (Z1 : q_Z) (M1 : q_C) (H : Heap) (locs : List Loc) (ls : Array Slot), Sum.inr (Z1, M1) = o → q_Hh D cA z0 s Z1 M1 H locs → lv_has ls 4 [] → q_le Zi Z1 → W p l e room_1 s m #[Value.ref b] below meth c H locs (zS Z1 - zS Zi) (zC Z1 - zC Zi) Q (F0 m 830 ls [])) : W p l e room_1 s m #[Value.ref b] below meth c H locs (zS Z - zS Zi) (zC Z - zC Zi) Q (F0 m 619 ls [.int s0, .int s1, va_rf s2]) := by
  have hx := E.1
  have hb := E.2.1
  have hown := E.2.2.2.1
  have hT := E.2.2.2.2.2.2.2.1
  have hcc := q_bd hi (moL_law_b619 _ _ _ _ _ _ _ _ _ _ _ _ hf) hbd
  unfold fL_law_b619 at hf
  obtain ⟨a_252, he_253, hf⟩ := q_biE hf
  subst he_253
  obtain ⟨hk_254, hf⟩ := q_gdE hf
  have hk_254 := q_keq hk_254
  obtain ⟨r_255, Z_258, M_257, hw_256, hf⟩ := q_b3E hf
  have hq1 := (moX6_side _ _ _ _ _ _ _ _ hw_256)
  have hq := moL_law_b622 _ _ _ _ _ _ _ _ _ _ hf
  refine q_cV (As := [.int s1, .int s0]) (rest := []) (st1 := [.int r_255]) E hH (tX6_side l D cA z0 a_252 s1 s0 Z M r_255 Z_258 M_257 hw_256) mw_X6_side mi_X6_side (ci := 6) rfl ms_X6_side kM_L_77 hk_254 (q_bs hi hq1 hq hbd) (q_be1 hi hq1) (q_be2 hi hq1) rfl hl.1 rfl rfl (Nat.le_of_ble_eq_true rfl) ⟨Nat.le_trans (by decide) hR.1, Nat.le_trans (by decide) hR.2⟩ dL_law_619 (fun H locs hH => ?_)
  exact bL_law_622 E hR Zi (hi.tr hq1) hbd hz0 hX hbl hbA v1 v2 v3 r_255 M_257 _ _ _  hf hH (lv_sub hl [0, 1, 2, 3] rfl) kb kx0
def fL_law_b663 (b L : Nat) (xs : Nat → Int32) (v1 : Nat) (v2 : Option Nat) (v3 : Int32) (s0 : Int32) (Z : q_Z) (M : q_C) : Option ((Int32 × q_Z × q_C) ⊕ (q_Z × q_C)) :=
  q_gd (q_sx L (v3 + (1 : Int32))) <|
  q_gd (q_sx L (v3 + (2 : Int32))) <|
  Option.bind v2 fun a_280 =>
  q_gd (zK Z a_280 == 17) <|
  Option.bind (fX7_tells a_280 (xs (v3 + (1 : Int32)).toNatClampNeg) (xs (v3 + (2 : Int32)).toNatClampNeg) Z M) fun r_283 =>
  if s0 = r_283 then
    fL_law_b824 b L xs (some v1) (some a_280) v3 Z M
  else
    none
theorem moL_law_b663 (b L : Nat) (xs : Nat → Int32) (v1 : Nat) (v2 : Option Nat) (v3 : Int32) (s0 : Int32) (Z : q_Z) (M : q_C) (o : (Int32 × q_Z × q_C) ⊕ (q_Z × q_C)) (hf : fL_law_b663 b L xs v1 v2 v3 s0 Z M = some o) : q_le Z (q_sm o (fun x => x.2.1) (fun x => x.1)) := by
  unfold fL_law_b663 at hf
  obtain ⟨-, hf⟩ := q_gdE hf
  obtain ⟨-, hf⟩ := q_gdE hf
  obtain ⟨a_280, -, hf⟩ := q_biE hf
  obtain ⟨-, hf⟩ := q_gdE hf
  obtain ⟨r_283, hw_284, hf⟩ := q_biE hf
  rcases q_ifC hf with hf | hf
  · exact moL_law_b824 _ _ _ _ _ _ _ _ _ hf
  · cases hf
set_option maxHeartbeats 4000000 in
set_option maxRecDepth 100000 in
theorem bL_law_663 {Q : State → Prop} (E : q_E p s m meth c cL_law 4 RL ret meth.name D cA) (hR : 7 ≤ room_1.frames ∧ 181 ≤ room_1.locals) (Zi : q_Z) {Z : q_Z} (hi : q_le Zi Z) {o : (Int32 × q_Z × q_C) ⊕ (q_Z × q_C)} (hbd : zS (q_sm o (fun x => x.2.1) (fun x => x.1)) - zS Zi ≤ 600000 ∧ zC (q_sm o (fun x => x.2.1) (fun x => x.1)) - zC Zi ≤ 7302250) {b L : Nat} {xs : Nat → Int32} (hz0 : z0 = s.heap.size) (hX : va_X b L xs s s.heap) (hbl : b < s.heap.size) (hbA : ¬ z0 ≤ b) (v1 : Nat) (v2 : Option Nat) (v3 : Int32) (s0 : Int32) (M : q_C) (H : Heap) (locs : List Loc) (ls : Array Slot) (hf : fL_law_b663 b L xs v1 v2 v3 s0 Z M = some o) (hH : q_Hh D cA z0 s Z M H locs) (hl : lv_has ls 4 [(0, .ref b), (1, .ref v1), (2, va_rf v2), (3, .int v3)]) (kb : ∀ (w3 : Int32) (Z1 : q_Z) (M1 : q_C) (H : Heap) (locs : List Loc) (ls : Array Slot), Sum.inl (w3, Z1, M1) = o → q_Hh D cA z0 s Z1 M1 H locs → lv_has ls 4 [(0, .ref b), (1, va_rf v1), (2, va_rf v2), (3, .int w3)] → q_le Zi Z1 → W p l e room_1 s m #[Value.ref b] below meth c H locs (zS Z1 - zS Zi) (zC Z1 - zC Zi) Q (F0 m 18 ls [])) (kx0 : ∀ (Z1 : q_Z) (M1 : q_C) (H : Heap) (locs : List Loc) (ls : Array Slot), Sum.inr (Z1, M1) = o → q_Hh D cA z0 s Z1 M1 H locs → lv_has ls 4 [] → q_le Zi Z1 → W p l e room_1 s m #[Value.ref b] below meth c H locs (zS Z1 - zS Zi) (zC Z1 - zC Zi) Q (F0 m 830 ls [])) : W p l e room_1 s m #[Value.ref b] below meth c H locs (zS Z - zS Zi) (zC Z - zC Zi) Q (F0 m 663 ls [.int s0]) := by
  have hx := E.1
  have hb := E.2.1
  have hown := E.2.2.2.1
  have hT := E.2.2.2.2.2.2.2.1
  have hcc := q_bd hi (moL_law_b663 _ _ _ _ _ _ _ _ _ _ hf) hbd
  unfold fL_law_b663 at hf
  refine q_aload_n hx hb dL_law_663 rfl (lv_at hl 2 rfl) ?_
  refine lv_aload_n hx hb dL_law_664 rfl (lv_at hl 0 rfl) ?_
  refine lv_iload_n hx hb dL_law_665 rfl (lv_at hl 3 rfl) ?_
  refine lv_iconst (v := 1) hx hb dL_law_666 (by decide) ?_
  refine lv_iadd hx hb dL_law_667 ?_
  obtain ⟨hz_278, hf⟩ := q_gdE hf
  refine va_sld hx hb hX hbl hbA hH.2 (q_sxE hz_278) dL_law_668 ?_
  refine lv_aload_n hx hb dL_law_669 rfl (lv_at hl 0 rfl) ?_
  refine lv_iload_n hx hb dL_law_670 rfl (lv_at hl 3 rfl) ?_
  refine lv_iconst (v := 2) hx hb dL_law_671 (by decide) ?_
  refine lv_iadd hx hb dL_law_672 ?_
  obtain ⟨hz_279, hf⟩ := q_gdE hf
  refine va_sld hx hb hX hbl hbA hH.2 (q_sxE hz_279) dL_law_673 ?_
  obtain ⟨a_280, he_281, hf⟩ := q_biE hf
  subst he_281
  obtain ⟨hk_282, hf⟩ := q_gdE hf
  have hk_282 := q_keq hk_282
  obtain ⟨r_283, hw_284, hf⟩ := q_biE hf
  refine q_cV (As := [.int (xs (v3 + (1 : Int32)).toNatClampNeg), .int (xs (v3 + (2 : Int32)).toNatClampNeg)]) (rest := [.int s0]) (st1 := [.int r_283, .int s0]) E hH (tX7_tells l D cA z0 a_280 (xs (v3 + (1 : Int32)).toNatClampNeg) (xs (v3 + (2 : Int32)).toNatClampNeg) Z M r_283 hw_284) mw_X7_tells mi_X7_tells (ci := 7) rfl ms_X7_tells kM_L_85 hk_282 hcc rfl rfl rfl hl.1 rfl rfl (Nat.le_of_ble_eq_true rfl) ⟨Nat.le_trans (by decide) hR.1, Nat.le_trans (by decide) hR.2⟩ dL_law_674 (fun H locs hH => ?_)
  refine lv_icmp_eq (tgt := 824) hx hb dL_law_677 (by decide) (fun cc_285 => ?_) (fun cc_285 => ?_)
  · replace hf := q_ifT cc_285 hf
    clear cc_285
    exact bL_law_824 E hR Zi hi hbd hz0 hX hbl hbA (some v1) (some a_280) v3 M _ _ _  hf hH (lv_sub hl [0, 1, 2, 3] rfl) kb kx0
  · replace hf := q_ifF cc_285 hf
    clear cc_285
    cases hf
def fL_law_b691 (b L : Nat) (xs : Nat → Int32) (v1 : Nat) (v2 : Option Nat) (v3 : Int32) (s0 : Int32) (Z : q_Z) (M : q_C) : Option ((Int32 × q_Z × q_C) ⊕ (q_Z × q_C)) :=
  q_gd (q_sx L (v3 + (1 : Int32))) <|
  Option.bind v2 fun a_295 =>
  q_gd (zK Z a_295 == 17) <|
  Option.bind (fX7_period a_295 (xs (v3 + (1 : Int32)).toNatClampNeg) Z M) fun r_298 =>
  if s0 = r_298 then
    fL_law_b824 b L xs (some v1) (some a_295) v3 Z M
  else
    none
theorem moL_law_b691 (b L : Nat) (xs : Nat → Int32) (v1 : Nat) (v2 : Option Nat) (v3 : Int32) (s0 : Int32) (Z : q_Z) (M : q_C) (o : (Int32 × q_Z × q_C) ⊕ (q_Z × q_C)) (hf : fL_law_b691 b L xs v1 v2 v3 s0 Z M = some o) : q_le Z (q_sm o (fun x => x.2.1) (fun x => x.1)) := by
  unfold fL_law_b691 at hf
  obtain ⟨-, hf⟩ := q_gdE hf
  obtain ⟨a_295, -, hf⟩ := q_biE hf
  obtain ⟨-, hf⟩ := q_gdE hf
  obtain ⟨r_298, hw_299, hf⟩ := q_biE hf
  rcases q_ifC hf with hf | hf
  · exact moL_law_b824 _ _ _ _ _ _ _ _ _ hf
  · cases hf
set_option maxHeartbeats 4000000 in
set_option maxRecDepth 100000 in
theorem bL_law_691 {Q : State → Prop} (E : q_E p s m meth c cL_law 4 RL ret meth.name D cA) (hR : 7 ≤ room_1.frames ∧ 181 ≤ room_1.locals) (Zi : q_Z) {Z : q_Z} (hi : q_le Zi Z) {o : (Int32 × q_Z × q_C) ⊕ (q_Z × q_C)} (hbd : zS (q_sm o (fun x => x.2.1) (fun x => x.1)) - zS Zi ≤ 600000 ∧ zC (q_sm o (fun x => x.2.1) (fun x => x.1)) - zC Zi ≤ 7302250) {b L : Nat} {xs : Nat → Int32} (hz0 : z0 = s.heap.size) (hX : va_X b L xs s s.heap) (hbl : b < s.heap.size) (hbA : ¬ z0 ≤ b) (v1 : Nat) (v2 : Option Nat) (v3 : Int32) (s0 : Int32) (M : q_C) (H : Heap) (locs : List Loc) (ls : Array Slot) (hf : fL_law_b691 b L xs v1 v2 v3 s0 Z M = some o) (hH : q_Hh D cA z0 s Z M H locs) (hl : lv_has ls 4 [(0, .ref b), (1, .ref v1), (2, va_rf v2), (3, .int v3)]) (kb : ∀ (w3 : Int32) (Z1 : q_Z) (M1 : q_C) (H : Heap) (locs : List Loc) (ls : Array Slot), Sum.inl (w3, Z1, M1) = o → q_Hh D cA z0 s Z1 M1 H locs → lv_has ls 4 [(0, .ref b), (1, va_rf v1), (2, va_rf v2), (3, .int w3)] → q_le Zi Z1 → W p l e room_1 s m #[Value.ref b] below meth c H locs (zS Z1 - zS Zi) (zC Z1 - zC Zi) Q (F0 m 18 ls [])) (kx0 : ∀ (Z1 : q_Z) (M1 : q_C) (H : Heap) (locs : List Loc) (ls : Array Slot), Sum.inr (Z1, M1) = o → q_Hh D cA z0 s Z1 M1 H locs → lv_has ls 4 [] → q_le Zi Z1 → W p l e room_1 s m #[Value.ref b] below meth c H locs (zS Z1 - zS Zi) (zC Z1 - zC Zi) Q (F0 m 830 ls [])) : W p l e room_1 s m #[Value.ref b] below meth c H locs (zS Z - zS Zi) (zC Z - zC Zi) Q (F0 m 691 ls [.int s0]) := by
  have hx := E.1
  have hb := E.2.1
  have hown := E.2.2.2.1
  have hT := E.2.2.2.2.2.2.2.1
  have hcc := q_bd hi (moL_law_b691 _ _ _ _ _ _ _ _ _ _ hf) hbd
  unfold fL_law_b691 at hf
  refine q_aload_n hx hb dL_law_691 rfl (lv_at hl 2 rfl) ?_
  refine lv_aload_n hx hb dL_law_692 rfl (lv_at hl 0 rfl) ?_
  refine lv_iload_n hx hb dL_law_693 rfl (lv_at hl 3 rfl) ?_
  refine lv_iconst (v := 1) hx hb dL_law_694 (by decide) ?_
  refine lv_iadd hx hb dL_law_695 ?_
  obtain ⟨hz_294, hf⟩ := q_gdE hf
  refine va_sld hx hb hX hbl hbA hH.2 (q_sxE hz_294) dL_law_696 ?_
  obtain ⟨a_295, he_296, hf⟩ := q_biE hf
  subst he_296
  obtain ⟨hk_297, hf⟩ := q_gdE hf
  have hk_297 := q_keq hk_297
  obtain ⟨r_298, hw_299, hf⟩ := q_biE hf
  refine q_cV (As := [.int (xs (v3 + (1 : Int32)).toNatClampNeg)]) (rest := [.int s0]) (st1 := [.int r_298, .int s0]) E hH (tX7_period l D cA z0 a_295 (xs (v3 + (1 : Int32)).toNatClampNeg) Z M r_298 hw_299) mw_X7_period mi_X7_period (ci := 7) rfl ms_X7_period kM_L_89 hk_297 hcc rfl rfl rfl hl.1 rfl rfl (Nat.le_of_ble_eq_true rfl) ⟨Nat.le_trans (by decide) hR.1, Nat.le_trans (by decide) hR.2⟩ dL_law_697 (fun H locs hH => ?_)
  refine lv_icmp_eq (tgt := 824) hx hb dL_law_700 (by decide) (fun cc_300 => ?_) (fun cc_300 => ?_)
  · replace hf := q_ifT cc_300 hf
    clear cc_300
    exact bL_law_824 E hR Zi hi hbd hz0 hX hbl hbA (some v1) (some a_295) v3 M _ _ _  hf hH (lv_sub hl [0, 1, 2, 3] rfl) kb kx0
  · replace hf := q_ifF cc_300 hf
    clear cc_300
    cases hf
def fL_law_b736 (b L : Nat) (xs : Nat → Int32) (v1 : Option Nat) (v2 : Option Nat) (v3 : Int32) (s0 : Int32) (s1 : Option Nat) (s2 : Int32) (Z : q_Z) (M : q_C) : Option ((Int32 × q_Z × q_C) ⊕ (q_Z × q_C)) :=
  Option.bind s1 fun a_310 =>
  q_gd (zK Z a_310 == 17) <|
  Option.bind (fX7_span a_310 s0 Z M) fun r_313 =>
  if s2 = r_313 then
    fL_law_b824 b L xs v1 v2 v3 Z M
  else
    none
theorem moL_law_b736 (b L : Nat) (xs : Nat → Int32) (v1 : Option Nat) (v2 : Option Nat) (v3 : Int32) (s0 : Int32) (s1 : Option Nat) (s2 : Int32) (Z : q_Z) (M : q_C) (o : (Int32 × q_Z × q_C) ⊕ (q_Z × q_C)) (hf : fL_law_b736 b L xs v1 v2 v3 s0 s1 s2 Z M = some o) : q_le Z (q_sm o (fun x => x.2.1) (fun x => x.1)) := by
  unfold fL_law_b736 at hf
  obtain ⟨a_310, -, hf⟩ := q_biE hf
  obtain ⟨-, hf⟩ := q_gdE hf
  obtain ⟨r_313, hw_314, hf⟩ := q_biE hf
  rcases q_ifC hf with hf | hf
  · exact moL_law_b824 _ _ _ _ _ _ _ _ _ hf
  · cases hf
set_option maxHeartbeats 4000000 in
set_option maxRecDepth 100000 in
theorem bL_law_736 {Q : State → Prop} (E : q_E p s m meth c cL_law 4 RL ret meth.name D cA) (hR : 7 ≤ room_1.frames ∧ 181 ≤ room_1.locals) (Zi : q_Z) {Z : q_Z} (hi : q_le Zi Z) {o : (Int32 × q_Z × q_C) ⊕ (q_Z × q_C)} (hbd : zS (q_sm o (fun x => x.2.1) (fun x => x.1)) - zS Zi ≤ 600000 ∧ zC (q_sm o (fun x => x.2.1) (fun x => x.1)) - zC Zi ≤ 7302250) {b L : Nat} {xs : Nat → Int32} (hz0 : z0 = s.heap.size) (hX : va_X b L xs s s.heap) (hbl : b < s.heap.size) (hbA : ¬ z0 ≤ b) (v1 : Option Nat) (v2 : Option Nat) (v3 : Int32) (s0 : Int32) (s1 : Option Nat) (s2 : Int32) (M : q_C) (H : Heap) (locs : List Loc) (ls : Array Slot) (hf : fL_law_b736 b L xs v1 v2 v3 s0 s1 s2 Z M = some o) (hH : q_Hh D cA z0 s Z M H locs) (hl : lv_has ls 4 [(0, .ref b), (1, va_rf v1), (2, va_rf v2), (3, .int v3)]) (kb : ∀ (w3 : Int32) (Z1 : q_Z) (M1 : q_C) (H : Heap) (locs : List Loc) (ls : Array Slot), Sum.inl (w3, Z1, M1) = o → q_Hh D cA z0 s Z1 M1 H locs → lv_has ls 4 [(0, .ref b), (1, va_rf v1), (2, va_rf v2), (3, .int w3)] → q_le Zi Z1 → W p l e room_1 s m #[Value.ref b] below meth c H locs (zS Z1 - zS Zi) (zC Z1 - zC Zi) Q (F0 m 18 ls [])) (kx0 : ∀ (Z1 : q_Z) (M1 : q_C) (H : Heap) (locs : List Loc) (ls : Array Slot), Sum.inr (Z1, M1) = o → q_Hh D cA z0 s Z1 M1 H locs → lv_has ls 4 [] → q_le Zi Z1 → W p l e room_1 s m #[Value.ref b] below meth c H locs (zS Z1 - zS Zi) (zC Z1 - zC Zi) Q (F0 m 830 ls [])) : W p l e room_1 s m #[Value.ref b] below meth c H locs (zS Z - zS Zi) (zC Z - zC Zi) Q (F0 m 736 ls [.int s0, va_rf s1, .int s2]) := by
  have hx := E.1
  have hb := E.2.1
  have hown := E.2.2.2.1
  have hT := E.2.2.2.2.2.2.2.1
  have hcc := q_bd hi (moL_law_b736 _ _ _ _ _ _ _ _ _ _ _ _ hf) hbd
  unfold fL_law_b736 at hf
  obtain ⟨a_310, he_311, hf⟩ := q_biE hf
  subst he_311
  obtain ⟨hk_312, hf⟩ := q_gdE hf
  have hk_312 := q_keq hk_312
  obtain ⟨r_313, hw_314, hf⟩ := q_biE hf
  refine q_cV (As := [.int s0]) (rest := [.int s2]) (st1 := [.int r_313, .int s2]) E hH (tX7_span l D cA z0 a_310 s0 Z M r_313 hw_314) mw_X7_span mi_X7_span (ci := 7) rfl ms_X7_span kM_L_94 hk_312 hcc rfl rfl rfl hl.1 rfl rfl (Nat.le_of_ble_eq_true rfl) ⟨Nat.le_trans (by decide) hR.1, Nat.le_trans (by decide) hR.2⟩ dL_law_736 (fun H locs hH => ?_)
  refine lv_icmp_eq (tgt := 824) hx hb dL_law_739 (by decide) (fun cc_315 => ?_) (fun cc_315 => ?_)
  · replace hf := q_ifT cc_315 hf
    clear cc_315
    exact bL_law_824 E hR Zi hi hbd hz0 hX hbl hbA v1 v2 v3 M _ _ _  hf hH (lv_sub hl [0, 1, 2, 3] rfl) kb kx0
  · replace hf := q_ifF cc_315 hf
    clear cc_315
    cases hf
def fL_law_b722 (b L : Nat) (xs : Nat → Int32) (v1 : Option Nat) (v2 : Option Nat) (v3 : Int32) (s0 : Int32) (Z : q_Z) (M : q_C) : Option ((Int32 × q_Z × q_C) ⊕ (q_Z × q_C)) :=
  q_gd (q_sx L (v3 + (1 : Int32))) <|
  if xs (v3 + (1 : Int32)).toNatClampNeg = 0 then
    fL_law_b736 b L xs v1 v2 v3 (0 : Int32) v2 s0 Z M
  else
    fL_law_b736 b L xs v1 v2 v3 (1 : Int32) v2 s0 Z M
theorem moL_law_b722 (b L : Nat) (xs : Nat → Int32) (v1 : Option Nat) (v2 : Option Nat) (v3 : Int32) (s0 : Int32) (Z : q_Z) (M : q_C) (o : (Int32 × q_Z × q_C) ⊕ (q_Z × q_C)) (hf : fL_law_b722 b L xs v1 v2 v3 s0 Z M = some o) : q_le Z (q_sm o (fun x => x.2.1) (fun x => x.1)) := by
  unfold fL_law_b722 at hf
  obtain ⟨-, hf⟩ := q_gdE hf
  rcases q_ifC hf with hf | hf
  · exact moL_law_b736 _ _ _ _ _ _ _ _ _ _ _ _ hf
  · exact moL_law_b736 _ _ _ _ _ _ _ _ _ _ _ _ hf
set_option maxHeartbeats 4000000 in
set_option maxRecDepth 100000 in
theorem bL_law_722 {Q : State → Prop} (E : q_E p s m meth c cL_law 4 RL ret meth.name D cA) (hR : 7 ≤ room_1.frames ∧ 181 ≤ room_1.locals) (Zi : q_Z) {Z : q_Z} (hi : q_le Zi Z) {o : (Int32 × q_Z × q_C) ⊕ (q_Z × q_C)} (hbd : zS (q_sm o (fun x => x.2.1) (fun x => x.1)) - zS Zi ≤ 600000 ∧ zC (q_sm o (fun x => x.2.1) (fun x => x.1)) - zC Zi ≤ 7302250) {b L : Nat} {xs : Nat → Int32} (hz0 : z0 = s.heap.size) (hX : va_X b L xs s s.heap) (hbl : b < s.heap.size) (hbA : ¬ z0 ≤ b) (v1 : Option Nat) (v2 : Option Nat) (v3 : Int32) (s0 : Int32) (M : q_C) (H : Heap) (locs : List Loc) (ls : Array Slot) (hf : fL_law_b722 b L xs v1 v2 v3 s0 Z M = some o) (hH : q_Hh D cA z0 s Z M H locs) (hl : lv_has ls 4 [(0, .ref b), (1, va_rf v1), (2, va_rf v2), (3, .int v3)]) (kb : ∀ (w3 : Int32) (Z1 : q_Z) (M1 : q_C) (H : Heap) (locs : List Loc) (ls : Array Slot), Sum.inl (w3, Z1, M1) = o → q_Hh D cA z0 s Z1 M1 H locs → lv_has ls 4 [(0, .ref b), (1, va_rf v1), (2, va_rf v2), (3, .int w3)] → q_le Zi Z1 → W p l e room_1 s m #[Value.ref b] below meth c H locs (zS Z1 - zS Zi) (zC Z1 - zC Zi) Q (F0 m 18 ls [])) (kx0 : ∀ (Z1 : q_Z) (M1 : q_C) (H : Heap) (locs : List Loc) (ls : Array Slot), Sum.inr (Z1, M1) = o → q_Hh D cA z0 s Z1 M1 H locs → lv_has ls 4 [] → q_le Zi Z1 → W p l e room_1 s m #[Value.ref b] below meth c H locs (zS Z1 - zS Zi) (zC Z1 - zC Zi) Q (F0 m 830 ls [])) : W p l e room_1 s m #[Value.ref b] below meth c H locs (zS Z - zS Zi) (zC Z - zC Zi) Q (F0 m 722 ls [.int s0]) := by
  have hx := E.1
  have hb := E.2.1
  have hown := E.2.2.2.1
  have hT := E.2.2.2.2.2.2.2.1
  have hcc := q_bd hi (moL_law_b722 _ _ _ _ _ _ _ _ _ _ hf) hbd
  unfold fL_law_b722 at hf
  refine q_aload_n hx hb dL_law_722 rfl (lv_at hl 2 rfl) ?_
  refine lv_aload_n hx hb dL_law_723 rfl (lv_at hl 0 rfl) ?_
  refine lv_iload_n hx hb dL_law_724 rfl (lv_at hl 3 rfl) ?_
  refine lv_iconst (v := 1) hx hb dL_law_725 (by decide) ?_
  refine lv_iadd hx hb dL_law_726 ?_
  obtain ⟨hz_309, hf⟩ := q_gdE hf
  refine va_sld hx hb hX hbl hbA hH.2 (q_sxE hz_309) dL_law_727 ?_
  refine lv_if_eq (tgt := 735) hx hb dL_law_728 (by decide) (fun cc_316 => ?_) (fun cc_316 => ?_)
  · replace hf := q_ifT cc_316 hf
    clear cc_316
    refine lv_iconst (v := 0) hx hb dL_law_735 (by decide) ?_
    exact bL_law_736 E hR Zi hi hbd hz0 hX hbl hbA v1 v2 v3 (0 : Int32) v2 s0 M _ _ _  hf hH (lv_sub hl [0, 1, 2, 3] rfl) kb kx0
  · replace hf := q_ifF cc_316 hf
    clear cc_316
    refine lv_iconst (v := 1) hx hb dL_law_731 (by decide) ?_
    refine lv_goto (tgt := 736) hx hb dL_law_732 (by decide) ?_
    exact bL_law_736 E hR Zi hi hbd hz0 hX hbl hbA v1 v2 v3 (1 : Int32) v2 s0 M _ _ _  hf hH (lv_sub hl [0, 1, 2, 3] rfl) kb kx0
def fL_law_b719 (b L : Nat) (xs : Nat → Int32) (v1 : Option Nat) (v2 : Option Nat) (v3 : Int32) (s0 : Int32) (s1 : Option Nat) (Z : q_Z) (M : q_C) : Option ((Int32 × q_Z × q_C) ⊕ (q_Z × q_C)) :=
  Option.bind s1 fun a_302 =>
  q_gd (zK Z a_302 == 16) <|
  q_b3 (fX6_span a_302 s0 Z M) fun r_305 Z_308 M_307 =>
  fL_law_b722 b L xs v1 v2 v3 r_305 Z_308 M_307
theorem moL_law_b719 (b L : Nat) (xs : Nat → Int32) (v1 : Option Nat) (v2 : Option Nat) (v3 : Int32) (s0 : Int32) (s1 : Option Nat) (Z : q_Z) (M : q_C) (o : (Int32 × q_Z × q_C) ⊕ (q_Z × q_C)) (hf : fL_law_b719 b L xs v1 v2 v3 s0 s1 Z M = some o) : q_le Z (q_sm o (fun x => x.2.1) (fun x => x.1)) := by
  unfold fL_law_b719 at hf
  obtain ⟨a_302, -, hf⟩ := q_biE hf
  obtain ⟨-, hf⟩ := q_gdE hf
  obtain ⟨r_305, Z_308, M_307, hw_306, hf⟩ := q_b3E hf
  have hq := moX6_span _ _ _ _ _ _ _ hw_306
  exact hq.tr (moL_law_b722 _ _ _ _ _ _ _ _ _ _ hf)
set_option maxHeartbeats 4000000 in
set_option maxRecDepth 100000 in
theorem bL_law_719 {Q : State → Prop} (E : q_E p s m meth c cL_law 4 RL ret meth.name D cA) (hR : 7 ≤ room_1.frames ∧ 181 ≤ room_1.locals) (Zi : q_Z) {Z : q_Z} (hi : q_le Zi Z) {o : (Int32 × q_Z × q_C) ⊕ (q_Z × q_C)} (hbd : zS (q_sm o (fun x => x.2.1) (fun x => x.1)) - zS Zi ≤ 600000 ∧ zC (q_sm o (fun x => x.2.1) (fun x => x.1)) - zC Zi ≤ 7302250) {b L : Nat} {xs : Nat → Int32} (hz0 : z0 = s.heap.size) (hX : va_X b L xs s s.heap) (hbl : b < s.heap.size) (hbA : ¬ z0 ≤ b) (v1 : Option Nat) (v2 : Option Nat) (v3 : Int32) (s0 : Int32) (s1 : Option Nat) (M : q_C) (H : Heap) (locs : List Loc) (ls : Array Slot) (hf : fL_law_b719 b L xs v1 v2 v3 s0 s1 Z M = some o) (hH : q_Hh D cA z0 s Z M H locs) (hl : lv_has ls 4 [(0, .ref b), (1, va_rf v1), (2, va_rf v2), (3, .int v3)]) (kb : ∀ (w3 : Int32) (Z1 : q_Z) (M1 : q_C) (H : Heap) (locs : List Loc) (ls : Array Slot), Sum.inl (w3, Z1, M1) = o → q_Hh D cA z0 s Z1 M1 H locs → lv_has ls 4 [(0, .ref b), (1, va_rf v1), (2, va_rf v2), (3, .int w3)] → q_le Zi Z1 → W p l e room_1 s m #[Value.ref b] below meth c H locs (zS Z1 - zS Zi) (zC Z1 - zC Zi) Q (F0 m 18 ls [])) (kx0 : ∀ (Z1 : q_Z) (M1 : q_C) (H : Heap) (locs : List Loc) (ls : Array Slot), Sum.inr (Z1, M1) = o → q_Hh D cA z0 s Z1 M1 H locs → lv_has ls 4 [] → q_le Zi Z1 → W p l e room_1 s m #[Value.ref b] below meth c H locs (zS Z1 - zS Zi) (zC Z1 - zC Zi) Q (F0 m 830 ls [])) : W p l e room_1 s m #[Value.ref b] below meth c H locs (zS Z - zS Zi) (zC Z - zC Zi) Q (F0 m 719 ls [.int s0, va_rf s1]) := by
  have hx := E.1
  have hb := E.2.1
  have hown := E.2.2.2.1
  have hT := E.2.2.2.2.2.2.2.1
  have hcc := q_bd hi (moL_law_b719 _ _ _ _ _ _ _ _ _ _ _ hf) hbd
  unfold fL_law_b719 at hf
  obtain ⟨a_302, he_303, hf⟩ := q_biE hf
  subst he_303
  obtain ⟨hk_304, hf⟩ := q_gdE hf
  have hk_304 := q_keq hk_304
  obtain ⟨r_305, Z_308, M_307, hw_306, hf⟩ := q_b3E hf
  have hq1 := (moX6_span _ _ _ _ _ _ _ hw_306)
  have hq := moL_law_b722 _ _ _ _ _ _ _ _ _ _ hf
  refine q_cV (As := [.int s0]) (rest := []) (st1 := [.int r_305]) E hH (tX6_span l D cA z0 a_302 s0 Z M r_305 Z_308 M_307 hw_306) mw_X6_span mi_X6_span (ci := 6) rfl ms_X6_span kM_L_90 hk_304 (q_bs hi hq1 hq hbd) (q_be1 hi hq1) (q_be2 hi hq1) rfl hl.1 rfl rfl (Nat.le_of_ble_eq_true rfl) ⟨Nat.le_trans (by decide) hR.1, Nat.le_trans (by decide) hR.2⟩ dL_law_719 (fun H locs hH => ?_)
  exact bL_law_722 E hR Zi (hi.tr hq1) hbd hz0 hX hbl hbA v1 v2 v3 r_305 M_307 _ _ _  hf hH (lv_sub hl [0, 1, 2, 3] rfl) kb kx0
def fL_law_b763 (b L : Nat) (xs : Nat → Int32) (v1 : Nat) (v2 : Option Nat) (v3 : Int32) (s0 : Int64) (Z : q_Z) (M : q_C) : Option ((Int32 × q_Z × q_C) ⊕ (q_Z × q_C)) :=
  q_gd (q_sx L (v3 + (1 : Int32))) <|
  q_gd (q_sx L (v3 + (2 : Int32))) <|
  q_gd (q_sx L (v3 + (3 : Int32))) <|
  Option.bind v2 fun a_331 =>
  q_gd (zK Z a_331 == 17) <|
  q_b2 (fX7_near a_331 (xs (v3 + (1 : Int32)).toNatClampNeg) (xs (v3 + (2 : Int32)).toNatClampNeg) (xs (v3 + (3 : Int32)).toNatClampNeg) Z M) fun r_334 M_336 =>
  if s0 = r_334 then
    fL_law_b824 b L xs (some v1) (some a_331) v3 Z M_336
  else
    none
theorem moL_law_b763 (b L : Nat) (xs : Nat → Int32) (v1 : Nat) (v2 : Option Nat) (v3 : Int32) (s0 : Int64) (Z : q_Z) (M : q_C) (o : (Int32 × q_Z × q_C) ⊕ (q_Z × q_C)) (hf : fL_law_b763 b L xs v1 v2 v3 s0 Z M = some o) : q_le Z (q_sm o (fun x => x.2.1) (fun x => x.1)) := by
  unfold fL_law_b763 at hf
  obtain ⟨-, hf⟩ := q_gdE hf
  obtain ⟨-, hf⟩ := q_gdE hf
  obtain ⟨-, hf⟩ := q_gdE hf
  obtain ⟨a_331, -, hf⟩ := q_biE hf
  obtain ⟨-, hf⟩ := q_gdE hf
  obtain ⟨r_334, M_336, hw_335, hf⟩ := q_b2E hf
  rcases q_ifC hf with hf | hf
  · exact moL_law_b824 _ _ _ _ _ _ _ _ _ hf
  · cases hf
set_option maxHeartbeats 4000000 in
set_option maxRecDepth 100000 in
theorem bL_law_763 {Q : State → Prop} (E : q_E p s m meth c cL_law 4 RL ret meth.name D cA) (hR : 7 ≤ room_1.frames ∧ 181 ≤ room_1.locals) (Zi : q_Z) {Z : q_Z} (hi : q_le Zi Z) {o : (Int32 × q_Z × q_C) ⊕ (q_Z × q_C)} (hbd : zS (q_sm o (fun x => x.2.1) (fun x => x.1)) - zS Zi ≤ 600000 ∧ zC (q_sm o (fun x => x.2.1) (fun x => x.1)) - zC Zi ≤ 7302250) {b L : Nat} {xs : Nat → Int32} (hz0 : z0 = s.heap.size) (hX : va_X b L xs s s.heap) (hbl : b < s.heap.size) (hbA : ¬ z0 ≤ b) (v1 : Nat) (v2 : Option Nat) (v3 : Int32) (s0 : Int64) (M : q_C) (H : Heap) (locs : List Loc) (ls : Array Slot) (hf : fL_law_b763 b L xs v1 v2 v3 s0 Z M = some o) (hH : q_Hh D cA z0 s Z M H locs) (hl : lv_has ls 4 [(0, .ref b), (1, .ref v1), (2, va_rf v2), (3, .int v3)]) (kb : ∀ (w3 : Int32) (Z1 : q_Z) (M1 : q_C) (H : Heap) (locs : List Loc) (ls : Array Slot), Sum.inl (w3, Z1, M1) = o → q_Hh D cA z0 s Z1 M1 H locs → lv_has ls 4 [(0, .ref b), (1, va_rf v1), (2, va_rf v2), (3, .int w3)] → q_le Zi Z1 → W p l e room_1 s m #[Value.ref b] below meth c H locs (zS Z1 - zS Zi) (zC Z1 - zC Zi) Q (F0 m 18 ls [])) (kx0 : ∀ (Z1 : q_Z) (M1 : q_C) (H : Heap) (locs : List Loc) (ls : Array Slot), Sum.inr (Z1, M1) = o → q_Hh D cA z0 s Z1 M1 H locs → lv_has ls 4 [] → q_le Zi Z1 → W p l e room_1 s m #[Value.ref b] below meth c H locs (zS Z1 - zS Zi) (zC Z1 - zC Zi) Q (F0 m 830 ls [])) : W p l e room_1 s m #[Value.ref b] below meth c H locs (zS Z - zS Zi) (zC Z - zC Zi) Q (F0 m 763 ls [.long s0]) := by
  have hx := E.1
  have hb := E.2.1
  have hown := E.2.2.2.1
  have hT := E.2.2.2.2.2.2.2.1
  have hcc := q_bd hi (moL_law_b763 _ _ _ _ _ _ _ _ _ _ hf) hbd
  unfold fL_law_b763 at hf
  refine q_aload_n hx hb dL_law_763 rfl (lv_at hl 2 rfl) ?_
  refine lv_aload_n hx hb dL_law_764 rfl (lv_at hl 0 rfl) ?_
  refine lv_iload_n hx hb dL_law_765 rfl (lv_at hl 3 rfl) ?_
  refine lv_iconst (v := 1) hx hb dL_law_766 (by decide) ?_
  refine lv_iadd hx hb dL_law_767 ?_
  obtain ⟨hz_328, hf⟩ := q_gdE hf
  refine va_sld hx hb hX hbl hbA hH.2 (q_sxE hz_328) dL_law_768 ?_
  refine lv_aload_n hx hb dL_law_769 rfl (lv_at hl 0 rfl) ?_
  refine lv_iload_n hx hb dL_law_770 rfl (lv_at hl 3 rfl) ?_
  refine lv_iconst (v := 2) hx hb dL_law_771 (by decide) ?_
  refine lv_iadd hx hb dL_law_772 ?_
  obtain ⟨hz_329, hf⟩ := q_gdE hf
  refine va_sld hx hb hX hbl hbA hH.2 (q_sxE hz_329) dL_law_773 ?_
  refine lv_aload_n hx hb dL_law_774 rfl (lv_at hl 0 rfl) ?_
  refine lv_iload_n hx hb dL_law_775 rfl (lv_at hl 3 rfl) ?_
  refine lv_iconst (v := 3) hx hb dL_law_776 (by decide) ?_
  refine lv_iadd hx hb dL_law_777 ?_
  obtain ⟨hz_330, hf⟩ := q_gdE hf
  refine va_sld hx hb hX hbl hbA hH.2 (q_sxE hz_330) dL_law_778 ?_
  obtain ⟨a_331, he_332, hf⟩ := q_biE hf
  subst he_332
  obtain ⟨hk_333, hf⟩ := q_gdE hf
  have hk_333 := q_keq hk_333
  obtain ⟨r_334, M_336, hw_335, hf⟩ := q_b2E hf
  refine q_cV (As := [.int (xs (v3 + (1 : Int32)).toNatClampNeg), .int (xs (v3 + (2 : Int32)).toNatClampNeg), .int (xs (v3 + (3 : Int32)).toNatClampNeg)]) (rest := [.long s0]) (st1 := [.long r_334, .long s0]) E hH (tX7_near l D cA z0 a_331 (xs (v3 + (1 : Int32)).toNatClampNeg) (xs (v3 + (2 : Int32)).toNatClampNeg) (xs (v3 + (3 : Int32)).toNatClampNeg) Z M r_334 M_336 hw_335) mw_X7_near mi_X7_near (ci := 7) rfl ms_X7_near kM_L_99 hk_333 hcc rfl rfl rfl hl.1 rfl rfl (Nat.le_of_ble_eq_true rfl) ⟨Nat.le_trans (by decide) hR.1, Nat.le_trans (by decide) hR.2⟩ dL_law_779 (fun H locs hH => ?_)
  refine q_lcmp_eq (pc1 := 783) (tgt := 824) hx hb dL_law_782 rfl dL_law_783 (by decide) (fun cc_337 => ?_) (fun cc_337 => ?_)
  · replace hf := q_ifT cc_337 hf
    clear cc_337
    exact bL_law_824 E hR Zi hi hbd hz0 hX hbl hbA (some v1) (some a_331) v3 M_336 _ _ _  hf hH (lv_sub hl [0, 1, 2, 3] rfl) kb kx0
  · replace hf := q_ifF cc_337 hf
    clear cc_337
    cases hf
def fL_law_L18 (b L : Nat) (xs : Nat → Int32) (v1 : Option Nat) (v2 : Option Nat) (v3 : Int32) (Z : q_Z) (M : q_C) : Option ((Int32 × q_Z × q_C) ⊕ (q_Z × q_C)) :=
  if (Int32.ofNat L) - (6 : Int32) < v3 then
    some (Sum.inr (Z, M))
  else
    q_gd (q_sx L v3) <|
    if (xs v3.toNatClampNeg) &&& (31 : Int32) = 0 then
      q_gd (q_sx L (v3 + (1 : Int32))) <|
      if xs (v3 + (1 : Int32)).toNatClampNeg = 0 then
        fL_law_b146 b L xs v1 v2 v3 (0 : Int32) v1 Z M
      else
        fL_law_b146 b L xs v1 v2 v3 (1 : Int32) v1 Z M
    else
    if (xs v3.toNatClampNeg) &&& (31 : Int32) = 1 then
      q_gd (q_sx L (v3 + (1 : Int32))) <|
      q_gd (q_sx L (v3 + (2 : Int32))) <|
      Option.bind v1 fun a_35 =>
      q_gd (zK Z a_35 == 16) <|
      q_b2 (fX6_masses a_35 (xs (v3 + (1 : Int32)).toNatClampNeg) (xs (v3 + (2 : Int32)).toNatClampNeg) Z M) fun r_38 M_40 =>
      q_gd (q_sx L (v3 + (1 : Int32))) <|
      q_gd (q_sx L (v3 + (2 : Int32))) <|
      Option.bind v2 fun a_43 =>
      q_gd (zK Z a_43 == 17) <|
      q_b2 (fX7_masses a_43 (xs (v3 + (1 : Int32)).toNatClampNeg) (xs (v3 + (2 : Int32)).toNatClampNeg) Z M_40) fun r_46 M_48 =>
      if r_38 = r_46 then
        fL_law_b824 b L xs (some a_35) (some a_43) v3 Z M_48
      else
        none
    else
    if (xs v3.toNatClampNeg) &&& (31 : Int32) = 2 then
      q_gd (q_sx L (v3 + (1 : Int32))) <|
      q_gd (q_sx L (v3 + (2 : Int32))) <|
      q_gd (q_sx L (v3 + (3 : Int32))) <|
      q_gd (q_sx L (v3 + (4 : Int32))) <|
      q_gd (q_sx L (v3 + (5 : Int32))) <|
      Option.bind v1 fun a_55 =>
      q_gd (zK Z a_55 == 16) <|
      q_b2 (fX6_sight a_55 (xs (v3 + (1 : Int32)).toNatClampNeg) (xs (v3 + (2 : Int32)).toNatClampNeg) (xs (v3 + (3 : Int32)).toNatClampNeg) (xs (v3 + (4 : Int32)).toNatClampNeg) (xs (v3 + (5 : Int32)).toNatClampNeg) Z M) fun r_58 M_60 =>
      q_gd (q_sx L (v3 + (1 : Int32))) <|
      q_gd (q_sx L (v3 + (2 : Int32))) <|
      q_gd (q_sx L (v3 + (3 : Int32))) <|
      q_gd (q_sx L (v3 + (4 : Int32))) <|
      q_gd (q_sx L (v3 + (5 : Int32))) <|
      Option.bind v2 fun a_66 =>
      q_gd (zK Z a_66 == 17) <|
      q_b2 (fX7_sight a_66 (xs (v3 + (1 : Int32)).toNatClampNeg) (xs (v3 + (2 : Int32)).toNatClampNeg) (xs (v3 + (3 : Int32)).toNatClampNeg) (xs (v3 + (4 : Int32)).toNatClampNeg) (xs (v3 + (5 : Int32)).toNatClampNeg) Z M_60) fun r_69 M_71 =>
      if r_58 = r_69 then
        fL_law_b824 b L xs (some a_55) (some a_66) v3 Z M_71
      else
        none
    else
    if (xs v3.toNatClampNeg) &&& (31 : Int32) = 3 then
      q_gd (q_sx L (v3 + (1 : Int32))) <|
      q_gd (q_sx L (v3 + (2 : Int32))) <|
      Option.bind v1 fun a_75 =>
      q_gd (zK Z a_75 == 16) <|
      q_b2 (fX6_miss a_75 (xs (v3 + (1 : Int32)).toNatClampNeg) (xs (v3 + (2 : Int32)).toNatClampNeg) Z M) fun r_78 M_80 =>
      q_gd (q_sx L (v3 + (1 : Int32))) <|
      q_gd (q_sx L (v3 + (2 : Int32))) <|
      Option.bind v2 fun a_83 =>
      q_gd (zK Z a_83 == 17) <|
      q_b2 (fX7_miss a_83 (xs (v3 + (1 : Int32)).toNatClampNeg) (xs (v3 + (2 : Int32)).toNatClampNeg) Z M_80) fun r_86 M_88 =>
      if r_78 = r_86 then
        fL_law_b824 b L xs (some a_75) (some a_83) v3 Z M_88
      else
        none
    else
    if (xs v3.toNatClampNeg) &&& (31 : Int32) = 4 then
      Option.bind v1 fun a_90 =>
      q_gd (zK Z a_90 == 16) <|
      q_b2 (fX6_unsee a_90 Z M) fun r_93 M_95 =>
      Option.bind v2 fun a_96 =>
      q_gd (zK Z a_96 == 17) <|
      q_b2 (fX7_unsee a_96 Z M_95) fun r_99 M_101 =>
      if r_93 = r_99 then
        fL_law_b824 b L xs (some a_90) (some a_96) v3 Z M_101
      else
        none
    else
    if (xs v3.toNatClampNeg) &&& (31 : Int32) = 5 then
      q_gd (q_sx L (v3 + (1 : Int32))) <|
      q_gd (q_sx L (v3 + (2 : Int32))) <|
      q_gd (q_sx L (v3 + (3 : Int32))) <|
      Option.bind v1 fun a_106 =>
      q_gd (zK Z a_106 == 16) <|
      q_b2 (fX6_grid a_106 (xs (v3 + (1 : Int32)).toNatClampNeg) (xs (v3 + (2 : Int32)).toNatClampNeg) (xs (v3 + (3 : Int32)).toNatClampNeg) Z M) fun r_109 M_111 =>
      q_gd (q_sx L (v3 + (1 : Int32))) <|
      q_gd (q_sx L (v3 + (2 : Int32))) <|
      q_gd (q_sx L (v3 + (3 : Int32))) <|
      Option.bind v2 fun a_115 =>
      q_gd (zK Z a_115 == 17) <|
      q_b2 (fX7_grid a_115 (xs (v3 + (1 : Int32)).toNatClampNeg) (xs (v3 + (2 : Int32)).toNatClampNeg) (xs (v3 + (3 : Int32)).toNatClampNeg) Z M_111) fun r_118 M_120 =>
      if r_109 = r_118 then
        fL_law_b824 b L xs (some a_106) (some a_115) v3 Z M_120
      else
        none
    else
    if (xs v3.toNatClampNeg) &&& (31 : Int32) = 6 then
      q_gd (q_sx L (v3 + (1 : Int32))) <|
      q_gd (q_sx L (v3 + (2 : Int32))) <|
      Option.bind v1 fun a_124 =>
      q_gd (zK Z a_124 == 16) <|
      q_b2 (fX6_base a_124 (xs (v3 + (1 : Int32)).toNatClampNeg) (xs (v3 + (2 : Int32)).toNatClampNeg) Z M) fun r_127 M_129 =>
      q_gd (q_sx L (v3 + (1 : Int32))) <|
      q_gd (q_sx L (v3 + (2 : Int32))) <|
      Option.bind v2 fun a_132 =>
      q_gd (zK Z a_132 == 17) <|
      q_b2 (fX7_base a_132 (xs (v3 + (1 : Int32)).toNatClampNeg) (xs (v3 + (2 : Int32)).toNatClampNeg) Z M_129) fun r_135 M_137 =>
      if r_127 = r_135 then
        fL_law_b824 b L xs (some a_124) (some a_132) v3 Z M_137
      else
        none
    else
    if (xs v3.toNatClampNeg) &&& (31 : Int32) = 7 then
      Option.bind v1 fun a_139 =>
      q_gd (zK Z a_139 == 16) <|
      q_b3 (fX6_keep a_139 Z M) fun r_142 Z_145 M_144 =>
      fL_law_b413 b L xs a_139 v2 v3 r_142 Z_145 M_144
    else
    if (xs v3.toNatClampNeg) &&& (31 : Int32) = 8 then
      q_gd (q_sx L (v3 + (1 : Int32))) <|
      q_gd (q_sx L (v3 + (2 : Int32))) <|
      Option.bind v1 fun a_155 =>
      q_gd (zK Z a_155 == 16) <|
      Option.bind (fX6_way a_155 (xs (v3 + (1 : Int32)).toNatClampNeg) (xs (v3 + (2 : Int32)).toNatClampNeg) Z M) fun r_158 =>
      q_gd (q_sx L (v3 + (1 : Int32))) <|
      q_gd (q_sx L (v3 + (2 : Int32))) <|
      Option.bind v2 fun a_162 =>
      q_gd (zK Z a_162 == 17) <|
      Option.bind (fX7_way a_162 (xs (v3 + (1 : Int32)).toNatClampNeg) (xs (v3 + (2 : Int32)).toNatClampNeg) Z M) fun r_165 =>
      if r_158 = r_165 then
        fL_law_b824 b L xs (some a_155) (some a_162) v3 Z M
      else
        none
    else
    if (xs v3.toNatClampNeg) &&& (31 : Int32) = 9 then
      q_gd (q_sx L (v3 + (1 : Int32))) <|
      q_gd (q_sx L (v3 + (2 : Int32))) <|
      q_gd (q_sx L (v3 + (3 : Int32))) <|
      Option.bind v1 fun a_171 =>
      q_gd (zK Z a_171 == 16) <|
      q_b3 (fX6_at a_171 (xs (v3 + (1 : Int32)).toNatClampNeg) (xs (v3 + (2 : Int32)).toNatClampNeg) (xs (v3 + (3 : Int32)).toNatClampNeg) Z M) fun r_174 Z_177 M_176 =>
      fL_law_b474 b L xs a_171 v2 v3 r_174 Z_177 M_176
    else
    if (xs v3.toNatClampNeg) &&& (31 : Int32) = 10 then
      q_gd (q_sx L (v3 + (1 : Int32))) <|
      q_gd (q_sx L (v3 + (2 : Int32))) <|
      Option.bind v1 fun a_189 =>
      q_gd (zK Z a_189 == 16) <|
      q_b3 (fX6_fits a_189 (xs (v3 + (1 : Int32)).toNatClampNeg) (xs (v3 + (2 : Int32)).toNatClampNeg) Z M) fun r_192 Z_195 M_194 =>
      fL_law_b512 b L xs a_189 v2 v3 r_192 Z_195 M_194
    else
    if (xs v3.toNatClampNeg) &&& (31 : Int32) = 11 then
      q_gd (q_sx L (v3 + (1 : Int32))) <|
      Option.bind v1 fun a_205 =>
      q_gd (zK Z a_205 == 16) <|
      q_b3 (fX6_fitting a_205 (xs (v3 + (1 : Int32)).toNatClampNeg) Z M) fun r_208 Z_211 M_210 =>
      fL_law_b540 b L xs a_205 v2 v3 r_208 Z_211 M_210
    else
    if (xs v3.toNatClampNeg) &&& (31 : Int32) = 12 then
      q_gd (q_sx L (v3 + (1 : Int32))) <|
      Option.bind v1 fun a_220 =>
      q_gd (zK Z a_220 == 16) <|
      q_b3 (fX6_without a_220 (xs (v3 + (1 : Int32)).toNatClampNeg) Z M) fun r_223 Z_226 M_225 =>
      fL_law_b563 b L xs a_220 v2 v3 r_223 Z_226 M_225
    else
    if (xs v3.toNatClampNeg) &&& (31 : Int32) = 13 then
      q_gd (q_sx L (v3 + (1 : Int32))) <|
      Option.bind v1 fun a_236 =>
      q_gd (zK Z a_236 == 16) <|
      q_b3 (fX6_patch a_236 (xs (v3 + (1 : Int32)).toNatClampNeg) Z M) fun r_239 Z_242 M_241 =>
      fL_law_b586 b L xs a_236 v2 v3 r_239 Z_242 M_241
    else
    if (xs v3.toNatClampNeg) &&& (31 : Int32) = 14 then
      q_gd (q_sx L (v3 + (1 : Int32))) <|
      q_gd (q_sx L (v3 + (2 : Int32))) <|
      if xs (v3 + (2 : Int32)).toNatClampNeg = 0 then
        fL_law_b619 b L xs v1 v2 v3 (0 : Int32) (xs (v3 + (1 : Int32)).toNatClampNeg) v1 Z M
      else
        fL_law_b619 b L xs v1 v2 v3 (1 : Int32) (xs (v3 + (1 : Int32)).toNatClampNeg) v1 Z M
    else
    if (xs v3.toNatClampNeg) &&& (31 : Int32) = 15 then
      q_gd (q_sx L (v3 + (1 : Int32))) <|
      q_gd (q_sx L (v3 + (2 : Int32))) <|
      Option.bind v1 fun a_271 =>
      q_gd (zK Z a_271 == 16) <|
      q_b3 (fX6_tells a_271 (xs (v3 + (1 : Int32)).toNatClampNeg) (xs (v3 + (2 : Int32)).toNatClampNeg) Z M) fun r_274 Z_277 M_276 =>
      fL_law_b663 b L xs a_271 v2 v3 r_274 Z_277 M_276
    else
    if (xs v3.toNatClampNeg) &&& (31 : Int32) = 16 then
      q_gd (q_sx L (v3 + (1 : Int32))) <|
      Option.bind v1 fun a_287 =>
      q_gd (zK Z a_287 == 16) <|
      q_b3 (fX6_period a_287 (xs (v3 + (1 : Int32)).toNatClampNeg) Z M) fun r_290 Z_293 M_292 =>
      fL_law_b691 b L xs a_287 v2 v3 r_290 Z_293 M_292
    else
    if (xs v3.toNatClampNeg) &&& (31 : Int32) = 17 then
      q_gd (q_sx L (v3 + (1 : Int32))) <|
      if xs (v3 + (1 : Int32)).toNatClampNeg = 0 then
        fL_law_b719 b L xs v1 v2 v3 (0 : Int32) v1 Z M
      else
        fL_law_b719 b L xs v1 v2 v3 (1 : Int32) v1 Z M
    else
    if (xs v3.toNatClampNeg) &&& (31 : Int32) = 18 then
      q_gd (q_sx L (v3 + (1 : Int32))) <|
      q_gd (q_sx L (v3 + (2 : Int32))) <|
      q_gd (q_sx L (v3 + (3 : Int32))) <|
      Option.bind v1 fun a_321 =>
      q_gd (zK Z a_321 == 16) <|
      q_b3 (fX6_near a_321 (xs (v3 + (1 : Int32)).toNatClampNeg) (xs (v3 + (2 : Int32)).toNatClampNeg) (xs (v3 + (3 : Int32)).toNatClampNeg) Z M) fun r_324 Z_327 M_326 =>
      fL_law_b763 b L xs a_321 v2 v3 r_324 Z_327 M_326
    else
    if (xs v3.toNatClampNeg) &&& (31 : Int32) = 19 then
      Option.bind v1 fun a_338 =>
      q_gd (zK Z a_338 == 16) <|
      Option.bind (fX6_nearest a_338 Z M) fun r_341 =>
      Option.bind v2 fun a_343 =>
      q_gd (zK Z a_343 == 17) <|
      Option.bind (fX7_nearest a_343 Z M) fun r_346 =>
      if r_341 = r_346 then
        fL_law_b824 b L xs (some a_338) (some a_343) v3 Z M
      else
        none
    else
    if (xs v3.toNatClampNeg) &&& (31 : Int32) = 20 then
      q_gd (q_sx L (v3 + (1 : Int32))) <|
      Option.bind v1 fun a_350 =>
      q_gd (zK Z a_350 == 16) <|
      Option.bind (fX6_all a_350 (xs (v3 + (1 : Int32)).toNatClampNeg) Z M) fun r_353 =>
      q_gd (q_sx L (v3 + (1 : Int32))) <|
      Option.bind v2 fun a_356 =>
      q_gd (zK Z a_356 == 17) <|
      Option.bind (fX7_all a_356 (xs (v3 + (1 : Int32)).toNatClampNeg) Z M) fun r_359 =>
      if r_353 = r_359 then
        fL_law_b824 b L xs (some a_350) (some a_356) v3 Z M
      else
        none
    else
    fL_law_b824 b L xs v1 v2 v3 Z M
theorem moL_law_L18 (b L : Nat) (xs : Nat → Int32) (v1 : Option Nat) (v2 : Option Nat) (v3 : Int32) (Z : q_Z) (M : q_C) (o : (Int32 × q_Z × q_C) ⊕ (q_Z × q_C)) (hf : fL_law_L18 b L xs v1 v2 v3 Z M = some o) : q_le Z (q_sm o (fun x => x.2.1) (fun x => x.1)) := by
  unfold fL_law_L18 at hf
  rcases q_ifC hf with hf | hf
  · cases hf
    exact q_le.rf
  · obtain ⟨-, hf⟩ := q_gdE hf
    rcases q_ifC hf with hf | hf
    · obtain ⟨-, hf⟩ := q_gdE hf
      rcases q_ifC hf with hf | hf
      · exact moL_law_b146 _ _ _ _ _ _ _ _ _ _ _ hf
      · exact moL_law_b146 _ _ _ _ _ _ _ _ _ _ _ hf
    rcases q_ifC hf with hf | hf
    · obtain ⟨-, hf⟩ := q_gdE hf
      obtain ⟨-, hf⟩ := q_gdE hf
      obtain ⟨a_35, -, hf⟩ := q_biE hf
      obtain ⟨-, hf⟩ := q_gdE hf
      obtain ⟨r_38, M_40, hw_39, hf⟩ := q_b2E hf
      obtain ⟨-, hf⟩ := q_gdE hf
      obtain ⟨-, hf⟩ := q_gdE hf
      obtain ⟨a_43, -, hf⟩ := q_biE hf
      obtain ⟨-, hf⟩ := q_gdE hf
      obtain ⟨r_46, M_48, hw_47, hf⟩ := q_b2E hf
      rcases q_ifC hf with hf | hf
      · exact moL_law_b824 _ _ _ _ _ _ _ _ _ hf
      · cases hf
    rcases q_ifC hf with hf | hf
    · obtain ⟨-, hf⟩ := q_gdE hf
      obtain ⟨-, hf⟩ := q_gdE hf
      obtain ⟨-, hf⟩ := q_gdE hf
      obtain ⟨-, hf⟩ := q_gdE hf
      obtain ⟨-, hf⟩ := q_gdE hf
      obtain ⟨a_55, -, hf⟩ := q_biE hf
      obtain ⟨-, hf⟩ := q_gdE hf
      obtain ⟨r_58, M_60, hw_59, hf⟩ := q_b2E hf
      obtain ⟨-, hf⟩ := q_gdE hf
      obtain ⟨-, hf⟩ := q_gdE hf
      obtain ⟨-, hf⟩ := q_gdE hf
      obtain ⟨-, hf⟩ := q_gdE hf
      obtain ⟨-, hf⟩ := q_gdE hf
      obtain ⟨a_66, -, hf⟩ := q_biE hf
      obtain ⟨-, hf⟩ := q_gdE hf
      obtain ⟨r_69, M_71, hw_70, hf⟩ := q_b2E hf
      rcases q_ifC hf with hf | hf
      · exact moL_law_b824 _ _ _ _ _ _ _ _ _ hf
      · cases hf
    rcases q_ifC hf with hf | hf
    · obtain ⟨-, hf⟩ := q_gdE hf
      obtain ⟨-, hf⟩ := q_gdE hf
      obtain ⟨a_75, -, hf⟩ := q_biE hf
      obtain ⟨-, hf⟩ := q_gdE hf
      obtain ⟨r_78, M_80, hw_79, hf⟩ := q_b2E hf
      obtain ⟨-, hf⟩ := q_gdE hf
      obtain ⟨-, hf⟩ := q_gdE hf
      obtain ⟨a_83, -, hf⟩ := q_biE hf
      obtain ⟨-, hf⟩ := q_gdE hf
      obtain ⟨r_86, M_88, hw_87, hf⟩ := q_b2E hf
      rcases q_ifC hf with hf | hf
      · exact moL_law_b824 _ _ _ _ _ _ _ _ _ hf
      · cases hf
    rcases q_ifC hf with hf | hf
    · obtain ⟨a_90, -, hf⟩ := q_biE hf
      obtain ⟨-, hf⟩ := q_gdE hf
      obtain ⟨r_93, M_95, hw_94, hf⟩ := q_b2E hf
      obtain ⟨a_96, -, hf⟩ := q_biE hf
      obtain ⟨-, hf⟩ := q_gdE hf
      obtain ⟨r_99, M_101, hw_100, hf⟩ := q_b2E hf
      rcases q_ifC hf with hf | hf
      · exact moL_law_b824 _ _ _ _ _ _ _ _ _ hf
      · cases hf
    rcases q_ifC hf with hf | hf
    · obtain ⟨-, hf⟩ := q_gdE hf
      obtain ⟨-, hf⟩ := q_gdE hf
      obtain ⟨-, hf⟩ := q_gdE hf
      obtain ⟨a_106, -, hf⟩ := q_biE hf
      obtain ⟨-, hf⟩ := q_gdE hf
      obtain ⟨r_109, M_111, hw_110, hf⟩ := q_b2E hf
      obtain ⟨-, hf⟩ := q_gdE hf
      obtain ⟨-, hf⟩ := q_gdE hf
      obtain ⟨-, hf⟩ := q_gdE hf
      obtain ⟨a_115, -, hf⟩ := q_biE hf
      obtain ⟨-, hf⟩ := q_gdE hf
      obtain ⟨r_118, M_120, hw_119, hf⟩ := q_b2E hf
      rcases q_ifC hf with hf | hf
      · exact moL_law_b824 _ _ _ _ _ _ _ _ _ hf
      · cases hf
    rcases q_ifC hf with hf | hf
    · obtain ⟨-, hf⟩ := q_gdE hf
      obtain ⟨-, hf⟩ := q_gdE hf
      obtain ⟨a_124, -, hf⟩ := q_biE hf
      obtain ⟨-, hf⟩ := q_gdE hf
      obtain ⟨r_127, M_129, hw_128, hf⟩ := q_b2E hf
      obtain ⟨-, hf⟩ := q_gdE hf
      obtain ⟨-, hf⟩ := q_gdE hf
      obtain ⟨a_132, -, hf⟩ := q_biE hf
      obtain ⟨-, hf⟩ := q_gdE hf
      obtain ⟨r_135, M_137, hw_136, hf⟩ := q_b2E hf
      rcases q_ifC hf with hf | hf
      · exact moL_law_b824 _ _ _ _ _ _ _ _ _ hf
      · cases hf
    rcases q_ifC hf with hf | hf
    · obtain ⟨a_139, -, hf⟩ := q_biE hf
      obtain ⟨-, hf⟩ := q_gdE hf
      obtain ⟨r_142, Z_145, M_144, hw_143, hf⟩ := q_b3E hf
      have hq := moX6_keep _ _ _ _ _ _ hw_143
      exact hq.tr (moL_law_b413 _ _ _ _ _ _ _ _ _ _ hf)
    rcases q_ifC hf with hf | hf
    · obtain ⟨-, hf⟩ := q_gdE hf
      obtain ⟨-, hf⟩ := q_gdE hf
      obtain ⟨a_155, -, hf⟩ := q_biE hf
      obtain ⟨-, hf⟩ := q_gdE hf
      obtain ⟨r_158, hw_159, hf⟩ := q_biE hf
      obtain ⟨-, hf⟩ := q_gdE hf
      obtain ⟨-, hf⟩ := q_gdE hf
      obtain ⟨a_162, -, hf⟩ := q_biE hf
      obtain ⟨-, hf⟩ := q_gdE hf
      obtain ⟨r_165, hw_166, hf⟩ := q_biE hf
      rcases q_ifC hf with hf | hf
      · exact moL_law_b824 _ _ _ _ _ _ _ _ _ hf
      · cases hf
    rcases q_ifC hf with hf | hf
    · obtain ⟨-, hf⟩ := q_gdE hf
      obtain ⟨-, hf⟩ := q_gdE hf
      obtain ⟨-, hf⟩ := q_gdE hf
      obtain ⟨a_171, -, hf⟩ := q_biE hf
      obtain ⟨-, hf⟩ := q_gdE hf
      obtain ⟨r_174, Z_177, M_176, hw_175, hf⟩ := q_b3E hf
      have hq := moX6_at _ _ _ _ _ _ _ _ _ hw_175
      exact hq.tr (moL_law_b474 _ _ _ _ _ _ _ _ _ _ hf)
    rcases q_ifC hf with hf | hf
    · obtain ⟨-, hf⟩ := q_gdE hf
      obtain ⟨-, hf⟩ := q_gdE hf
      obtain ⟨a_189, -, hf⟩ := q_biE hf
      obtain ⟨-, hf⟩ := q_gdE hf
      obtain ⟨r_192, Z_195, M_194, hw_193, hf⟩ := q_b3E hf
      have hq := moX6_fits _ _ _ _ _ _ _ _ hw_193
      exact hq.tr (moL_law_b512 _ _ _ _ _ _ _ _ _ _ hf)
    rcases q_ifC hf with hf | hf
    · obtain ⟨-, hf⟩ := q_gdE hf
      obtain ⟨a_205, -, hf⟩ := q_biE hf
      obtain ⟨-, hf⟩ := q_gdE hf
      obtain ⟨r_208, Z_211, M_210, hw_209, hf⟩ := q_b3E hf
      have hq := moX6_fitting _ _ _ _ _ _ _ hw_209
      exact hq.tr (moL_law_b540 _ _ _ _ _ _ _ _ _ _ hf)
    rcases q_ifC hf with hf | hf
    · obtain ⟨-, hf⟩ := q_gdE hf
      obtain ⟨a_220, -, hf⟩ := q_biE hf
      obtain ⟨-, hf⟩ := q_gdE hf
      obtain ⟨r_223, Z_226, M_225, hw_224, hf⟩ := q_b3E hf
      have hq := moX6_without _ _ _ _ _ _ _ hw_224
      exact hq.tr (moL_law_b563 _ _ _ _ _ _ _ _ _ _ hf)
    rcases q_ifC hf with hf | hf
    · obtain ⟨-, hf⟩ := q_gdE hf
      obtain ⟨a_236, -, hf⟩ := q_biE hf
      obtain ⟨-, hf⟩ := q_gdE hf
      obtain ⟨r_239, Z_242, M_241, hw_240, hf⟩ := q_b3E hf
      have hq := moX6_patch _ _ _ _ _ _ _ hw_240
      exact hq.tr (moL_law_b586 _ _ _ _ _ _ _ _ _ _ hf)
    rcases q_ifC hf with hf | hf
    · obtain ⟨-, hf⟩ := q_gdE hf
      obtain ⟨-, hf⟩ := q_gdE hf
      rcases q_ifC hf with hf | hf
      · exact moL_law_b619 _ _ _ _ _ _ _ _ _ _ _ _ hf
      · exact moL_law_b619 _ _ _ _ _ _ _ _ _ _ _ _ hf
    rcases q_ifC hf with hf | hf
    · obtain ⟨-, hf⟩ := q_gdE hf
      obtain ⟨-, hf⟩ := q_gdE hf
      obtain ⟨a_271, -, hf⟩ := q_biE hf
      obtain ⟨-, hf⟩ := q_gdE hf
      obtain ⟨r_274, Z_277, M_276, hw_275, hf⟩ := q_b3E hf
      have hq := moX6_tells _ _ _ _ _ _ _ _ hw_275
      exact hq.tr (moL_law_b663 _ _ _ _ _ _ _ _ _ _ hf)
    rcases q_ifC hf with hf | hf
    · obtain ⟨-, hf⟩ := q_gdE hf
      obtain ⟨a_287, -, hf⟩ := q_biE hf
      obtain ⟨-, hf⟩ := q_gdE hf
      obtain ⟨r_290, Z_293, M_292, hw_291, hf⟩ := q_b3E hf
      have hq := moX6_period _ _ _ _ _ _ _ hw_291
      exact hq.tr (moL_law_b691 _ _ _ _ _ _ _ _ _ _ hf)
    rcases q_ifC hf with hf | hf
    · obtain ⟨-, hf⟩ := q_gdE hf
      rcases q_ifC hf with hf | hf
      · exact moL_law_b719 _ _ _ _ _ _ _ _ _ _ _ hf
      · exact moL_law_b719 _ _ _ _ _ _ _ _ _ _ _ hf
    rcases q_ifC hf with hf | hf
    · obtain ⟨-, hf⟩ := q_gdE hf
      obtain ⟨-, hf⟩ := q_gdE hf
      obtain ⟨-, hf⟩ := q_gdE hf
      obtain ⟨a_321, -, hf⟩ := q_biE hf
      obtain ⟨-, hf⟩ := q_gdE hf
      obtain ⟨r_324, Z_327, M_326, hw_325, hf⟩ := q_b3E hf
      have hq := moX6_near _ _ _ _ _ _ _ _ _ hw_325
      exact hq.tr (moL_law_b763 _ _ _ _ _ _ _ _ _ _ hf)
    rcases q_ifC hf with hf | hf
    · obtain ⟨a_338, -, hf⟩ := q_biE hf
      obtain ⟨-, hf⟩ := q_gdE hf
      obtain ⟨r_341, hw_342, hf⟩ := q_biE hf
      obtain ⟨a_343, -, hf⟩ := q_biE hf
      obtain ⟨-, hf⟩ := q_gdE hf
      obtain ⟨r_346, hw_347, hf⟩ := q_biE hf
      rcases q_ifC hf with hf | hf
      · exact moL_law_b824 _ _ _ _ _ _ _ _ _ hf
      · cases hf
    rcases q_ifC hf with hf | hf
    · obtain ⟨-, hf⟩ := q_gdE hf
      obtain ⟨a_350, -, hf⟩ := q_biE hf
      obtain ⟨-, hf⟩ := q_gdE hf
      obtain ⟨r_353, hw_354, hf⟩ := q_biE hf
      obtain ⟨-, hf⟩ := q_gdE hf
      obtain ⟨a_356, -, hf⟩ := q_biE hf
      obtain ⟨-, hf⟩ := q_gdE hf
      obtain ⟨r_359, hw_360, hf⟩ := q_biE hf
      rcases q_ifC hf with hf | hf
      · exact moL_law_b824 _ _ _ _ _ _ _ _ _ hf
      · cases hf
    exact moL_law_b824 _ _ _ _ _ _ _ _ _ hf
theorem moL_law_l18 (b L : Nat) (xs : Nat → Int32) (v1 : Option Nat) (v2 : Option Nat) (n : Nat) (x : Int32 × q_Z × q_C) (r : (q_Z × q_C)) (hf : q_it (fun x => fL_law_L18 b L xs v1 v2 x.1 x.2.1 x.2.2) n x = some r) : q_le ((fun x => x.2.1) x) ((fun x => x.1) r) := by
  exact q_itmo _ (fun x => x.2.1) (fun x => x.1) (fun x o hx => moL_law_L18 _ _ _ _ _ _ _ _ o hx) n x r hf
set_option maxHeartbeats 4000000 in
set_option maxRecDepth 100000 in
theorem lL_law_18 {Q : State → Prop} (E : q_E p s m meth c cL_law 4 RL ret meth.name D cA) (hR : 7 ≤ room_1.frames ∧ 181 ≤ room_1.locals) (Zi : q_Z) {b L : Nat} {xs : Nat → Int32} (hz0 : z0 = s.heap.size) (hX : va_X b L xs s s.heap) (hbl : b < s.heap.size) (hbA : ¬ z0 ≤ b) (v1 : Option Nat) (v2 : Option Nat) : ∀ (n : Nat) (v3 : Int32) (Z : q_Z) (M : q_C) (H : Heap) (locs : List Loc) (ls : Array Slot) (r : (q_Z × q_C)), q_it (fun x => fL_law_L18 b L xs v1 v2 x.1 x.2.1 x.2.2) n (v3, Z, M) = some r → zS ((fun x => x.1) r) - zS Zi ≤ 600000 ∧ zC ((fun x => x.1) r) - zC Zi ≤ 7302250 → q_Hh D cA z0 s Z M H locs → lv_has ls 4 [(0, .ref b), (1, va_rf v1), (2, va_rf v2), (3, .int v3)] → q_le Zi Z → (kx0 : ∀ (Z1 : q_Z) (M1 : q_C) (H : Heap) (locs : List Loc) (ls : Array Slot), (Z1, M1) = r → q_Hh D cA z0 s Z1 M1 H locs → lv_has ls 4 [] → q_le Zi Z1 → W p l e room_1 s m #[Value.ref b] below meth c H locs (zS Z1 - zS Zi) (zC Z1 - zC Zi) Q (F0 m 830 ls [])) → W p l e room_1 s m #[Value.ref b] below meth c H locs (zS Z - zS Zi) (zC Z - zC Zi) Q (F0 m 18 ls []) := by
  have hx := E.1
  have hb := E.2.1
  have hown := E.2.2.2.1
  have hT := E.2.2.2.2.2.2.2.1
  intro n
  induction n with
  | zero =>
    intro v3 Z M H locs ls r hf
    cases hf
  | succ n ih =>
    intro v3 Z M H locs ls r hf hbr hH hl hi ky0
    obtain ⟨n1, o, hn, hf, ho⟩ := q_itE hf
    cases hn
    have hf : fL_law_L18 b L xs v1 v2 v3 Z M = some o := hf
    have hbd : zS (q_sm o (fun x => x.2.1) (fun x => x.1)) - zS Zi ≤ 600000 ∧ zC (q_sm o (fun x => x.2.1) (fun x => x.1)) - zC Zi ≤ 7302250 := by
      cases o with
      | inl y => exact q_bd (hi.tr (moL_law_L18 _ _ _ _ _ _ _ _ _ hf)) (moL_law_l18 _ _ _ _ _ _ _ _ ho) hbr
      | inr y => cases ho; exact hbr
    have hcc := q_bd hi (moL_law_L18 _ _ _ _ _ _ _ _ _ hf) hbd
    have kb : ∀ (w3 : Int32) (Z1 : q_Z) (M1 : q_C) (H : Heap) (locs : List Loc) (ls : Array Slot), Sum.inl (w3, Z1, M1) = o → q_Hh D cA z0 s Z1 M1 H locs → lv_has ls 4 [(0, .ref b), (1, va_rf v1), (2, va_rf v2), (3, .int w3)] → q_le Zi Z1 → W p l e room_1 s m #[Value.ref b] below meth c H locs (zS Z1 - zS Zi) (zC Z1 - zC Zi) Q (F0 m 18 ls []) := by
      intro w3 Z1 M1 H locs ls e hH hl hi
      subst e
      exact ih w3 Z1 M1 H locs ls r ho hbr hH hl hi ky0
    have kx0 : ∀ (Z1 : q_Z) (M1 : q_C) (H : Heap) (locs : List Loc) (ls : Array Slot), Sum.inr (Z1, M1) = o → q_Hh D cA z0 s Z1 M1 H locs → lv_has ls 4 [] → q_le Zi Z1 → W p l e room_1 s m #[Value.ref b] below meth c H locs (zS Z1 - zS Zi) (zC Z1 - zC Zi) Q (F0 m 830 ls []) := by
      intro Z1 M1 H locs ls e hH hl hi
      subst e
      exact ky0 Z1 M1 H locs ls ho hH hl hi
    unfold fL_law_L18 at hf
    refine lv_iload_n hx hb dL_law_18 rfl (lv_at hl 3 rfl) ?_
    refine lv_aload_n hx hb dL_law_19 rfl (lv_at hl 0 rfl) ?_
    refine va_slen hx hb hX hbl hbA hH.2 dL_law_20 ?_
    refine lv_bipush (v := 6) hx hb dL_law_21 (by decide) ?_
    refine lv_isub hx hb dL_law_23 ?_
    refine lv_icmp_gt (tgt := 830) hx hb dL_law_24 (by decide) (fun cc_383 => ?_) (fun cc_383 => ?_)
    · replace hf := q_ifT cc_383 hf
      clear cc_383
      cases hf
      exact kx0 Z M _ _ _ rfl hH (lv_sub hl [] rfl) hi
    · replace hf := q_ifF cc_383 hf
      clear cc_383
      refine lv_aload_n hx hb dL_law_27 rfl (lv_at hl 0 rfl) ?_
      refine lv_iload_n hx hb dL_law_28 rfl (lv_at hl 3 rfl) ?_
      obtain ⟨hz_9, hf⟩ := q_gdE hf
      refine va_sld hx hb hX hbl hbA hH.2 (q_sxE hz_9) dL_law_29 ?_
      refine lv_bipush (v := 31) hx hb dL_law_30 (by decide) ?_
      refine lv_iand hx hb dL_law_32 ?_
      by_cases cs_362 : (xs v3.toNatClampNeg) &&& (31 : Int32) = 0
      · replace hf := q_ifT cs_362 hf
        refine q_tin (tgt := 132) 0 hx hb dL_law_33 cs_362 (by decide) (by decide) rfl (by decide) ?_
        refine q_aload_n hx hb dL_law_132 rfl (lv_at hl 1 rfl) ?_
        refine lv_aload_n hx hb dL_law_133 rfl (lv_at hl 0 rfl) ?_
        refine lv_iload_n hx hb dL_law_134 rfl (lv_at hl 3 rfl) ?_
        refine lv_iconst (v := 1) hx hb dL_law_135 (by decide) ?_
        refine lv_iadd hx hb dL_law_136 ?_
        obtain ⟨hz_10, hf⟩ := q_gdE hf
        refine va_sld hx hb hX hbl hbA hH.2 (q_sxE hz_10) dL_law_137 ?_
        refine lv_if_eq (tgt := 145) hx hb dL_law_138 (by decide) (fun cc_32 => ?_) (fun cc_32 => ?_)
        · replace hf := q_ifT cc_32 hf
          clear cc_32
          refine lv_iconst (v := 0) hx hb dL_law_145 (by decide) ?_
          exact bL_law_146 E hR Zi hi hbd hz0 hX hbl hbA v1 v2 v3 (0 : Int32) v1 M _ _ _  hf hH (lv_sub hl [0, 1, 2, 3] rfl) kb kx0
        · replace hf := q_ifF cc_32 hf
          clear cc_32
          refine lv_iconst (v := 1) hx hb dL_law_141 (by decide) ?_
          refine lv_goto (tgt := 146) hx hb dL_law_142 (by decide) ?_
          exact bL_law_146 E hR Zi hi hbd hz0 hX hbl hbA v1 v2 v3 (1 : Int32) v1 M _ _ _  hf hH (lv_sub hl [0, 1, 2, 3] rfl) kb kx0
      replace hf := q_ifF cs_362 hf
      by_cases cs_363 : (xs v3.toNatClampNeg) &&& (31 : Int32) = 1
      · replace hf := q_ifT cs_363 hf
        refine q_tin (tgt := 191) 1 hx hb dL_law_33 cs_363 (by decide) (by decide) rfl (by decide) ?_
        refine q_aload_n hx hb dL_law_191 rfl (lv_at hl 1 rfl) ?_
        refine lv_aload_n hx hb dL_law_192 rfl (lv_at hl 0 rfl) ?_
        refine lv_iload_n hx hb dL_law_193 rfl (lv_at hl 3 rfl) ?_
        refine lv_iconst (v := 1) hx hb dL_law_194 (by decide) ?_
        refine lv_iadd hx hb dL_law_195 ?_
        obtain ⟨hz_33, hf⟩ := q_gdE hf
        refine va_sld hx hb hX hbl hbA hH.2 (q_sxE hz_33) dL_law_196 ?_
        refine lv_aload_n hx hb dL_law_197 rfl (lv_at hl 0 rfl) ?_
        refine lv_iload_n hx hb dL_law_198 rfl (lv_at hl 3 rfl) ?_
        refine lv_iconst (v := 2) hx hb dL_law_199 (by decide) ?_
        refine lv_iadd hx hb dL_law_200 ?_
        obtain ⟨hz_34, hf⟩ := q_gdE hf
        refine va_sld hx hb hX hbl hbA hH.2 (q_sxE hz_34) dL_law_201 ?_
        obtain ⟨a_35, he_36, hf⟩ := q_biE hf
        subst he_36
        obtain ⟨hk_37, hf⟩ := q_gdE hf
        have hk_37 := q_keq hk_37
        obtain ⟨r_38, M_40, hw_39, hf⟩ := q_b2E hf
        refine q_cV (As := [.int (xs (v3 + (1 : Int32)).toNatClampNeg), .int (xs (v3 + (2 : Int32)).toNatClampNeg)]) (rest := []) (st1 := [.int r_38]) E hH (tX6_masses l D cA z0 a_35 (xs (v3 + (1 : Int32)).toNatClampNeg) (xs (v3 + (2 : Int32)).toNatClampNeg) Z M r_38 M_40 hw_39) mw_X6_masses mi_X6_masses (ci := 6) rfl ms_X6_masses kM_L_18 hk_37 hcc rfl rfl rfl hl.1 rfl rfl (Nat.le_of_ble_eq_true rfl) ⟨Nat.le_trans (by decide) hR.1, Nat.le_trans (by decide) hR.2⟩ dL_law_202 (fun H locs hH => ?_)
        refine q_aload_n hx hb dL_law_205 rfl (lv_at hl 2 rfl) ?_
        refine lv_aload_n hx hb dL_law_206 rfl (lv_at hl 0 rfl) ?_
        refine lv_iload_n hx hb dL_law_207 rfl (lv_at hl 3 rfl) ?_
        refine lv_iconst (v := 1) hx hb dL_law_208 (by decide) ?_
        refine lv_iadd hx hb dL_law_209 ?_
        obtain ⟨hz_41, hf⟩ := q_gdE hf
        refine va_sld hx hb hX hbl hbA hH.2 (q_sxE hz_41) dL_law_210 ?_
        refine lv_aload_n hx hb dL_law_211 rfl (lv_at hl 0 rfl) ?_
        refine lv_iload_n hx hb dL_law_212 rfl (lv_at hl 3 rfl) ?_
        refine lv_iconst (v := 2) hx hb dL_law_213 (by decide) ?_
        refine lv_iadd hx hb dL_law_214 ?_
        obtain ⟨hz_42, hf⟩ := q_gdE hf
        refine va_sld hx hb hX hbl hbA hH.2 (q_sxE hz_42) dL_law_215 ?_
        obtain ⟨a_43, he_44, hf⟩ := q_biE hf
        subst he_44
        obtain ⟨hk_45, hf⟩ := q_gdE hf
        have hk_45 := q_keq hk_45
        obtain ⟨r_46, M_48, hw_47, hf⟩ := q_b2E hf
        refine q_cV (As := [.int (xs (v3 + (1 : Int32)).toNatClampNeg), .int (xs (v3 + (2 : Int32)).toNatClampNeg)]) (rest := [.int r_38]) (st1 := [.int r_46, .int r_38]) E hH (tX7_masses l D cA z0 a_43 (xs (v3 + (1 : Int32)).toNatClampNeg) (xs (v3 + (2 : Int32)).toNatClampNeg) Z M_40 r_46 M_48 hw_47) mw_X7_masses mi_X7_masses (ci := 7) rfl ms_X7_masses kM_L_22 hk_45 hcc rfl rfl rfl hl.1 rfl rfl (Nat.le_of_ble_eq_true rfl) ⟨Nat.le_trans (by decide) hR.1, Nat.le_trans (by decide) hR.2⟩ dL_law_216 (fun H locs hH => ?_)
        refine lv_icmp_eq (tgt := 824) hx hb dL_law_219 (by decide) (fun cc_49 => ?_) (fun cc_49 => ?_)
        · replace hf := q_ifT cc_49 hf
          clear cc_49
          exact bL_law_824 E hR Zi hi hbd hz0 hX hbl hbA (some a_35) (some a_43) v3 M_48 _ _ _  hf hH (lv_sub hl [0, 1, 2, 3] rfl) kb kx0
        · replace hf := q_ifF cc_49 hf
          clear cc_49
          cases hf
      replace hf := q_ifF cs_363 hf
      by_cases cs_364 : (xs v3.toNatClampNeg) &&& (31 : Int32) = 2
      · replace hf := q_ifT cs_364 hf
        refine q_tin (tgt := 224) 2 hx hb dL_law_33 cs_364 (by decide) (by decide) rfl (by decide) ?_
        refine q_aload_n hx hb dL_law_224 rfl (lv_at hl 1 rfl) ?_
        refine lv_aload_n hx hb dL_law_225 rfl (lv_at hl 0 rfl) ?_
        refine lv_iload_n hx hb dL_law_226 rfl (lv_at hl 3 rfl) ?_
        refine lv_iconst (v := 1) hx hb dL_law_227 (by decide) ?_
        refine lv_iadd hx hb dL_law_228 ?_
        obtain ⟨hz_50, hf⟩ := q_gdE hf
        refine va_sld hx hb hX hbl hbA hH.2 (q_sxE hz_50) dL_law_229 ?_
        refine lv_aload_n hx hb dL_law_230 rfl (lv_at hl 0 rfl) ?_
        refine lv_iload_n hx hb dL_law_231 rfl (lv_at hl 3 rfl) ?_
        refine lv_iconst (v := 2) hx hb dL_law_232 (by decide) ?_
        refine lv_iadd hx hb dL_law_233 ?_
        obtain ⟨hz_51, hf⟩ := q_gdE hf
        refine va_sld hx hb hX hbl hbA hH.2 (q_sxE hz_51) dL_law_234 ?_
        refine lv_aload_n hx hb dL_law_235 rfl (lv_at hl 0 rfl) ?_
        refine lv_iload_n hx hb dL_law_236 rfl (lv_at hl 3 rfl) ?_
        refine lv_iconst (v := 3) hx hb dL_law_237 (by decide) ?_
        refine lv_iadd hx hb dL_law_238 ?_
        obtain ⟨hz_52, hf⟩ := q_gdE hf
        refine va_sld hx hb hX hbl hbA hH.2 (q_sxE hz_52) dL_law_239 ?_
        refine lv_aload_n hx hb dL_law_240 rfl (lv_at hl 0 rfl) ?_
        refine lv_iload_n hx hb dL_law_241 rfl (lv_at hl 3 rfl) ?_
        refine lv_iconst (v := 4) hx hb dL_law_242 (by decide) ?_
        refine lv_iadd hx hb dL_law_243 ?_
        obtain ⟨hz_53, hf⟩ := q_gdE hf
        refine va_sld hx hb hX hbl hbA hH.2 (q_sxE hz_53) dL_law_244 ?_
        refine lv_aload_n hx hb dL_law_245 rfl (lv_at hl 0 rfl) ?_
        refine lv_iload_n hx hb dL_law_246 rfl (lv_at hl 3 rfl) ?_
        refine lv_iconst (v := 5) hx hb dL_law_247 (by decide) ?_
        refine lv_iadd hx hb dL_law_248 ?_
        obtain ⟨hz_54, hf⟩ := q_gdE hf
        refine va_sld hx hb hX hbl hbA hH.2 (q_sxE hz_54) dL_law_249 ?_
        obtain ⟨a_55, he_56, hf⟩ := q_biE hf
        subst he_56
        obtain ⟨hk_57, hf⟩ := q_gdE hf
        have hk_57 := q_keq hk_57
        obtain ⟨r_58, M_60, hw_59, hf⟩ := q_b2E hf
        refine q_cV (As := [.int (xs (v3 + (1 : Int32)).toNatClampNeg), .int (xs (v3 + (2 : Int32)).toNatClampNeg), .int (xs (v3 + (3 : Int32)).toNatClampNeg), .int (xs (v3 + (4 : Int32)).toNatClampNeg), .int (xs (v3 + (5 : Int32)).toNatClampNeg)]) (rest := []) (st1 := [.int r_58]) E hH (tX6_sight l D cA z0 a_55 (xs (v3 + (1 : Int32)).toNatClampNeg) (xs (v3 + (2 : Int32)).toNatClampNeg) (xs (v3 + (3 : Int32)).toNatClampNeg) (xs (v3 + (4 : Int32)).toNatClampNeg) (xs (v3 + (5 : Int32)).toNatClampNeg) Z M r_58 M_60 hw_59) mw_X6_sight mi_X6_sight (ci := 6) rfl ms_X6_sight kM_L_23 hk_57 hcc rfl rfl rfl hl.1 rfl rfl (Nat.le_of_ble_eq_true rfl) ⟨Nat.le_trans (by decide) hR.1, Nat.le_trans (by decide) hR.2⟩ dL_law_250 (fun H locs hH => ?_)
        refine q_aload_n hx hb dL_law_253 rfl (lv_at hl 2 rfl) ?_
        refine lv_aload_n hx hb dL_law_254 rfl (lv_at hl 0 rfl) ?_
        refine lv_iload_n hx hb dL_law_255 rfl (lv_at hl 3 rfl) ?_
        refine lv_iconst (v := 1) hx hb dL_law_256 (by decide) ?_
        refine lv_iadd hx hb dL_law_257 ?_
        obtain ⟨hz_61, hf⟩ := q_gdE hf
        refine va_sld hx hb hX hbl hbA hH.2 (q_sxE hz_61) dL_law_258 ?_
        refine lv_aload_n hx hb dL_law_259 rfl (lv_at hl 0 rfl) ?_
        refine lv_iload_n hx hb dL_law_260 rfl (lv_at hl 3 rfl) ?_
        refine lv_iconst (v := 2) hx hb dL_law_261 (by decide) ?_
        refine lv_iadd hx hb dL_law_262 ?_
        obtain ⟨hz_62, hf⟩ := q_gdE hf
        refine va_sld hx hb hX hbl hbA hH.2 (q_sxE hz_62) dL_law_263 ?_
        refine lv_aload_n hx hb dL_law_264 rfl (lv_at hl 0 rfl) ?_
        refine lv_iload_n hx hb dL_law_265 rfl (lv_at hl 3 rfl) ?_
        refine lv_iconst (v := 3) hx hb dL_law_266 (by decide) ?_
        refine lv_iadd hx hb dL_law_267 ?_
        obtain ⟨hz_63, hf⟩ := q_gdE hf
        refine va_sld hx hb hX hbl hbA hH.2 (q_sxE hz_63) dL_law_268 ?_
        refine lv_aload_n hx hb dL_law_269 rfl (lv_at hl 0 rfl) ?_
        refine lv_iload_n hx hb dL_law_270 rfl (lv_at hl 3 rfl) ?_
        refine lv_iconst (v := 4) hx hb dL_law_271 (by decide) ?_
        refine lv_iadd hx hb dL_law_272 ?_
        obtain ⟨hz_64, hf⟩ := q_gdE hf
        refine va_sld hx hb hX hbl hbA hH.2 (q_sxE hz_64) dL_law_273 ?_
        refine lv_aload_n hx hb dL_law_274 rfl (lv_at hl 0 rfl) ?_
        refine lv_iload_n hx hb dL_law_275 rfl (lv_at hl 3 rfl) ?_
        refine lv_iconst (v := 5) hx hb dL_law_276 (by decide) ?_
        refine lv_iadd hx hb dL_law_277 ?_
        obtain ⟨hz_65, hf⟩ := q_gdE hf
        refine va_sld hx hb hX hbl hbA hH.2 (q_sxE hz_65) dL_law_278 ?_
        obtain ⟨a_66, he_67, hf⟩ := q_biE hf
        subst he_67
        obtain ⟨hk_68, hf⟩ := q_gdE hf
        have hk_68 := q_keq hk_68
        obtain ⟨r_69, M_71, hw_70, hf⟩ := q_b2E hf
        refine q_cV (As := [.int (xs (v3 + (1 : Int32)).toNatClampNeg), .int (xs (v3 + (2 : Int32)).toNatClampNeg), .int (xs (v3 + (3 : Int32)).toNatClampNeg), .int (xs (v3 + (4 : Int32)).toNatClampNeg), .int (xs (v3 + (5 : Int32)).toNatClampNeg)]) (rest := [.int r_58]) (st1 := [.int r_69, .int r_58]) E hH (tX7_sight l D cA z0 a_66 (xs (v3 + (1 : Int32)).toNatClampNeg) (xs (v3 + (2 : Int32)).toNatClampNeg) (xs (v3 + (3 : Int32)).toNatClampNeg) (xs (v3 + (4 : Int32)).toNatClampNeg) (xs (v3 + (5 : Int32)).toNatClampNeg) Z M_60 r_69 M_71 hw_70) mw_X7_sight mi_X7_sight (ci := 7) rfl ms_X7_sight kM_L_27 hk_68 hcc rfl rfl rfl hl.1 rfl rfl (Nat.le_of_ble_eq_true rfl) ⟨Nat.le_trans (by decide) hR.1, Nat.le_trans (by decide) hR.2⟩ dL_law_279 (fun H locs hH => ?_)
        refine lv_icmp_eq (tgt := 824) hx hb dL_law_282 (by decide) (fun cc_72 => ?_) (fun cc_72 => ?_)
        · replace hf := q_ifT cc_72 hf
          clear cc_72
          exact bL_law_824 E hR Zi hi hbd hz0 hX hbl hbA (some a_55) (some a_66) v3 M_71 _ _ _  hf hH (lv_sub hl [0, 1, 2, 3] rfl) kb kx0
        · replace hf := q_ifF cc_72 hf
          clear cc_72
          cases hf
      replace hf := q_ifF cs_364 hf
      by_cases cs_365 : (xs v3.toNatClampNeg) &&& (31 : Int32) = 3
      · replace hf := q_ifT cs_365 hf
        refine q_tin (tgt := 287) 3 hx hb dL_law_33 cs_365 (by decide) (by decide) rfl (by decide) ?_
        refine q_aload_n hx hb dL_law_287 rfl (lv_at hl 1 rfl) ?_
        refine lv_aload_n hx hb dL_law_288 rfl (lv_at hl 0 rfl) ?_
        refine lv_iload_n hx hb dL_law_289 rfl (lv_at hl 3 rfl) ?_
        refine lv_iconst (v := 1) hx hb dL_law_290 (by decide) ?_
        refine lv_iadd hx hb dL_law_291 ?_
        obtain ⟨hz_73, hf⟩ := q_gdE hf
        refine va_sld hx hb hX hbl hbA hH.2 (q_sxE hz_73) dL_law_292 ?_
        refine lv_aload_n hx hb dL_law_293 rfl (lv_at hl 0 rfl) ?_
        refine lv_iload_n hx hb dL_law_294 rfl (lv_at hl 3 rfl) ?_
        refine lv_iconst (v := 2) hx hb dL_law_295 (by decide) ?_
        refine lv_iadd hx hb dL_law_296 ?_
        obtain ⟨hz_74, hf⟩ := q_gdE hf
        refine va_sld hx hb hX hbl hbA hH.2 (q_sxE hz_74) dL_law_297 ?_
        obtain ⟨a_75, he_76, hf⟩ := q_biE hf
        subst he_76
        obtain ⟨hk_77, hf⟩ := q_gdE hf
        have hk_77 := q_keq hk_77
        obtain ⟨r_78, M_80, hw_79, hf⟩ := q_b2E hf
        refine q_cV (As := [.int (xs (v3 + (1 : Int32)).toNatClampNeg), .int (xs (v3 + (2 : Int32)).toNatClampNeg)]) (rest := []) (st1 := [.int r_78]) E hH (tX6_miss l D cA z0 a_75 (xs (v3 + (1 : Int32)).toNatClampNeg) (xs (v3 + (2 : Int32)).toNatClampNeg) Z M r_78 M_80 hw_79) mw_X6_miss mi_X6_miss (ci := 6) rfl ms_X6_miss kM_L_28 hk_77 hcc rfl rfl rfl hl.1 rfl rfl (Nat.le_of_ble_eq_true rfl) ⟨Nat.le_trans (by decide) hR.1, Nat.le_trans (by decide) hR.2⟩ dL_law_298 (fun H locs hH => ?_)
        refine q_aload_n hx hb dL_law_301 rfl (lv_at hl 2 rfl) ?_
        refine lv_aload_n hx hb dL_law_302 rfl (lv_at hl 0 rfl) ?_
        refine lv_iload_n hx hb dL_law_303 rfl (lv_at hl 3 rfl) ?_
        refine lv_iconst (v := 1) hx hb dL_law_304 (by decide) ?_
        refine lv_iadd hx hb dL_law_305 ?_
        obtain ⟨hz_81, hf⟩ := q_gdE hf
        refine va_sld hx hb hX hbl hbA hH.2 (q_sxE hz_81) dL_law_306 ?_
        refine lv_aload_n hx hb dL_law_307 rfl (lv_at hl 0 rfl) ?_
        refine lv_iload_n hx hb dL_law_308 rfl (lv_at hl 3 rfl) ?_
        refine lv_iconst (v := 2) hx hb dL_law_309 (by decide) ?_
        refine lv_iadd hx hb dL_law_310 ?_
        obtain ⟨hz_82, hf⟩ := q_gdE hf
        refine va_sld hx hb hX hbl hbA hH.2 (q_sxE hz_82) dL_law_311 ?_
        obtain ⟨a_83, he_84, hf⟩ := q_biE hf
        subst he_84
        obtain ⟨hk_85, hf⟩ := q_gdE hf
        have hk_85 := q_keq hk_85
        obtain ⟨r_86, M_88, hw_87, hf⟩ := q_b2E hf
        refine q_cV (As := [.int (xs (v3 + (1 : Int32)).toNatClampNeg), .int (xs (v3 + (2 : Int32)).toNatClampNeg)]) (rest := [.int r_78]) (st1 := [.int r_86, .int r_78]) E hH (tX7_miss l D cA z0 a_83 (xs (v3 + (1 : Int32)).toNatClampNeg) (xs (v3 + (2 : Int32)).toNatClampNeg) Z M_80 r_86 M_88 hw_87) mw_X7_miss mi_X7_miss (ci := 7) rfl ms_X7_miss kM_L_32 hk_85 hcc rfl rfl rfl hl.1 rfl rfl (Nat.le_of_ble_eq_true rfl) ⟨Nat.le_trans (by decide) hR.1, Nat.le_trans (by decide) hR.2⟩ dL_law_312 (fun H locs hH => ?_)
        refine lv_icmp_eq (tgt := 824) hx hb dL_law_315 (by decide) (fun cc_89 => ?_) (fun cc_89 => ?_)
        · replace hf := q_ifT cc_89 hf
          clear cc_89
          exact bL_law_824 E hR Zi hi hbd hz0 hX hbl hbA (some a_75) (some a_83) v3 M_88 _ _ _  hf hH (lv_sub hl [0, 1, 2, 3] rfl) kb kx0
        · replace hf := q_ifF cc_89 hf
          clear cc_89
          cases hf
      replace hf := q_ifF cs_365 hf
      by_cases cs_366 : (xs v3.toNatClampNeg) &&& (31 : Int32) = 4
      · replace hf := q_ifT cs_366 hf
        refine q_tin (tgt := 320) 4 hx hb dL_law_33 cs_366 (by decide) (by decide) rfl (by decide) ?_
        refine q_aload_n hx hb dL_law_320 rfl (lv_at hl 1 rfl) ?_
        obtain ⟨a_90, he_91, hf⟩ := q_biE hf
        subst he_91
        obtain ⟨hk_92, hf⟩ := q_gdE hf
        have hk_92 := q_keq hk_92
        obtain ⟨r_93, M_95, hw_94, hf⟩ := q_b2E hf
        refine q_cV (As := []) (rest := []) (st1 := [.int r_93]) E hH (tX6_unsee l D cA z0 a_90 Z M r_93 M_95 hw_94) mw_X6_unsee mi_X6_unsee (ci := 6) rfl ms_X6_unsee kM_L_33 hk_92 hcc rfl rfl rfl hl.1 rfl rfl (Nat.le_of_ble_eq_true rfl) ⟨Nat.le_trans (by decide) hR.1, Nat.le_trans (by decide) hR.2⟩ dL_law_321 (fun H locs hH => ?_)
        refine q_aload_n hx hb dL_law_324 rfl (lv_at hl 2 rfl) ?_
        obtain ⟨a_96, he_97, hf⟩ := q_biE hf
        subst he_97
        obtain ⟨hk_98, hf⟩ := q_gdE hf
        have hk_98 := q_keq hk_98
        obtain ⟨r_99, M_101, hw_100, hf⟩ := q_b2E hf
        refine q_cV (As := []) (rest := [.int r_93]) (st1 := [.int r_99, .int r_93]) E hH (tX7_unsee l D cA z0 a_96 Z M_95 r_99 M_101 hw_100) mw_X7_unsee mi_X7_unsee (ci := 7) rfl ms_X7_unsee kM_L_37 hk_98 hcc rfl rfl rfl hl.1 rfl rfl (Nat.le_of_ble_eq_true rfl) ⟨Nat.le_trans (by decide) hR.1, Nat.le_trans (by decide) hR.2⟩ dL_law_325 (fun H locs hH => ?_)
        refine lv_icmp_eq (tgt := 824) hx hb dL_law_328 (by decide) (fun cc_102 => ?_) (fun cc_102 => ?_)
        · replace hf := q_ifT cc_102 hf
          clear cc_102
          exact bL_law_824 E hR Zi hi hbd hz0 hX hbl hbA (some a_90) (some a_96) v3 M_101 _ _ _  hf hH (lv_sub hl [0, 1, 2, 3] rfl) kb kx0
        · replace hf := q_ifF cc_102 hf
          clear cc_102
          cases hf
      replace hf := q_ifF cs_366 hf
      by_cases cs_367 : (xs v3.toNatClampNeg) &&& (31 : Int32) = 5
      · replace hf := q_ifT cs_367 hf
        refine q_tin (tgt := 333) 5 hx hb dL_law_33 cs_367 (by decide) (by decide) rfl (by decide) ?_
        refine q_aload_n hx hb dL_law_333 rfl (lv_at hl 1 rfl) ?_
        refine lv_aload_n hx hb dL_law_334 rfl (lv_at hl 0 rfl) ?_
        refine lv_iload_n hx hb dL_law_335 rfl (lv_at hl 3 rfl) ?_
        refine lv_iconst (v := 1) hx hb dL_law_336 (by decide) ?_
        refine lv_iadd hx hb dL_law_337 ?_
        obtain ⟨hz_103, hf⟩ := q_gdE hf
        refine va_sld hx hb hX hbl hbA hH.2 (q_sxE hz_103) dL_law_338 ?_
        refine lv_aload_n hx hb dL_law_339 rfl (lv_at hl 0 rfl) ?_
        refine lv_iload_n hx hb dL_law_340 rfl (lv_at hl 3 rfl) ?_
        refine lv_iconst (v := 2) hx hb dL_law_341 (by decide) ?_
        refine lv_iadd hx hb dL_law_342 ?_
        obtain ⟨hz_104, hf⟩ := q_gdE hf
        refine va_sld hx hb hX hbl hbA hH.2 (q_sxE hz_104) dL_law_343 ?_
        refine lv_aload_n hx hb dL_law_344 rfl (lv_at hl 0 rfl) ?_
        refine lv_iload_n hx hb dL_law_345 rfl (lv_at hl 3 rfl) ?_
        refine lv_iconst (v := 3) hx hb dL_law_346 (by decide) ?_
        refine lv_iadd hx hb dL_law_347 ?_
        obtain ⟨hz_105, hf⟩ := q_gdE hf
        refine va_sld hx hb hX hbl hbA hH.2 (q_sxE hz_105) dL_law_348 ?_
        obtain ⟨a_106, he_107, hf⟩ := q_biE hf
        subst he_107
        obtain ⟨hk_108, hf⟩ := q_gdE hf
        have hk_108 := q_keq hk_108
        obtain ⟨r_109, M_111, hw_110, hf⟩ := q_b2E hf
        refine q_cV (As := [.int (xs (v3 + (1 : Int32)).toNatClampNeg), .int (xs (v3 + (2 : Int32)).toNatClampNeg), .int (xs (v3 + (3 : Int32)).toNatClampNeg)]) (rest := []) (st1 := [.int r_109]) E hH (tX6_grid l D cA z0 a_106 (xs (v3 + (1 : Int32)).toNatClampNeg) (xs (v3 + (2 : Int32)).toNatClampNeg) (xs (v3 + (3 : Int32)).toNatClampNeg) Z M r_109 M_111 hw_110) mw_X6_grid mi_X6_grid (ci := 6) rfl ms_X6_grid kM_L_38 hk_108 hcc rfl rfl rfl hl.1 rfl rfl (Nat.le_of_ble_eq_true rfl) ⟨Nat.le_trans (by decide) hR.1, Nat.le_trans (by decide) hR.2⟩ dL_law_349 (fun H locs hH => ?_)
        refine q_aload_n hx hb dL_law_352 rfl (lv_at hl 2 rfl) ?_
        refine lv_aload_n hx hb dL_law_353 rfl (lv_at hl 0 rfl) ?_
        refine lv_iload_n hx hb dL_law_354 rfl (lv_at hl 3 rfl) ?_
        refine lv_iconst (v := 1) hx hb dL_law_355 (by decide) ?_
        refine lv_iadd hx hb dL_law_356 ?_
        obtain ⟨hz_112, hf⟩ := q_gdE hf
        refine va_sld hx hb hX hbl hbA hH.2 (q_sxE hz_112) dL_law_357 ?_
        refine lv_aload_n hx hb dL_law_358 rfl (lv_at hl 0 rfl) ?_
        refine lv_iload_n hx hb dL_law_359 rfl (lv_at hl 3 rfl) ?_
        refine lv_iconst (v := 2) hx hb dL_law_360 (by decide) ?_
        refine lv_iadd hx hb dL_law_361 ?_
        obtain ⟨hz_113, hf⟩ := q_gdE hf
        refine va_sld hx hb hX hbl hbA hH.2 (q_sxE hz_113) dL_law_362 ?_
        refine lv_aload_n hx hb dL_law_363 rfl (lv_at hl 0 rfl) ?_
        refine lv_iload_n hx hb dL_law_364 rfl (lv_at hl 3 rfl) ?_
        refine lv_iconst (v := 3) hx hb dL_law_365 (by decide) ?_
        refine lv_iadd hx hb dL_law_366 ?_
        obtain ⟨hz_114, hf⟩ := q_gdE hf
        refine va_sld hx hb hX hbl hbA hH.2 (q_sxE hz_114) dL_law_367 ?_
        obtain ⟨a_115, he_116, hf⟩ := q_biE hf
        subst he_116
        obtain ⟨hk_117, hf⟩ := q_gdE hf
        have hk_117 := q_keq hk_117
        obtain ⟨r_118, M_120, hw_119, hf⟩ := q_b2E hf
        refine q_cV (As := [.int (xs (v3 + (1 : Int32)).toNatClampNeg), .int (xs (v3 + (2 : Int32)).toNatClampNeg), .int (xs (v3 + (3 : Int32)).toNatClampNeg)]) (rest := [.int r_109]) (st1 := [.int r_118, .int r_109]) E hH (tX7_grid l D cA z0 a_115 (xs (v3 + (1 : Int32)).toNatClampNeg) (xs (v3 + (2 : Int32)).toNatClampNeg) (xs (v3 + (3 : Int32)).toNatClampNeg) Z M_111 r_118 M_120 hw_119) mw_X7_grid mi_X7_grid (ci := 7) rfl ms_X7_grid kM_L_42 hk_117 hcc rfl rfl rfl hl.1 rfl rfl (Nat.le_of_ble_eq_true rfl) ⟨Nat.le_trans (by decide) hR.1, Nat.le_trans (by decide) hR.2⟩ dL_law_368 (fun H locs hH => ?_)
        refine lv_icmp_eq (tgt := 824) hx hb dL_law_371 (by decide) (fun cc_121 => ?_) (fun cc_121 => ?_)
        · replace hf := q_ifT cc_121 hf
          clear cc_121
          exact bL_law_824 E hR Zi hi hbd hz0 hX hbl hbA (some a_106) (some a_115) v3 M_120 _ _ _  hf hH (lv_sub hl [0, 1, 2, 3] rfl) kb kx0
        · replace hf := q_ifF cc_121 hf
          clear cc_121
          cases hf
      replace hf := q_ifF cs_367 hf
      by_cases cs_368 : (xs v3.toNatClampNeg) &&& (31 : Int32) = 6
      · replace hf := q_ifT cs_368 hf
        refine q_tin (tgt := 376) 6 hx hb dL_law_33 cs_368 (by decide) (by decide) rfl (by decide) ?_
        refine q_aload_n hx hb dL_law_376 rfl (lv_at hl 1 rfl) ?_
        refine lv_aload_n hx hb dL_law_377 rfl (lv_at hl 0 rfl) ?_
        refine lv_iload_n hx hb dL_law_378 rfl (lv_at hl 3 rfl) ?_
        refine lv_iconst (v := 1) hx hb dL_law_379 (by decide) ?_
        refine lv_iadd hx hb dL_law_380 ?_
        obtain ⟨hz_122, hf⟩ := q_gdE hf
        refine va_sld hx hb hX hbl hbA hH.2 (q_sxE hz_122) dL_law_381 ?_
        refine lv_aload_n hx hb dL_law_382 rfl (lv_at hl 0 rfl) ?_
        refine lv_iload_n hx hb dL_law_383 rfl (lv_at hl 3 rfl) ?_
        refine lv_iconst (v := 2) hx hb dL_law_384 (by decide) ?_
        refine lv_iadd hx hb dL_law_385 ?_
        obtain ⟨hz_123, hf⟩ := q_gdE hf
        refine va_sld hx hb hX hbl hbA hH.2 (q_sxE hz_123) dL_law_386 ?_
        obtain ⟨a_124, he_125, hf⟩ := q_biE hf
        subst he_125
        obtain ⟨hk_126, hf⟩ := q_gdE hf
        have hk_126 := q_keq hk_126
        obtain ⟨r_127, M_129, hw_128, hf⟩ := q_b2E hf
        refine q_cV (As := [.int (xs (v3 + (1 : Int32)).toNatClampNeg), .int (xs (v3 + (2 : Int32)).toNatClampNeg)]) (rest := []) (st1 := [.int r_127]) E hH (tX6_base l D cA z0 a_124 (xs (v3 + (1 : Int32)).toNatClampNeg) (xs (v3 + (2 : Int32)).toNatClampNeg) Z M r_127 M_129 hw_128) mw_X6_base mi_X6_base (ci := 6) rfl ms_X6_base kM_L_43 hk_126 hcc rfl rfl rfl hl.1 rfl rfl (Nat.le_of_ble_eq_true rfl) ⟨Nat.le_trans (by decide) hR.1, Nat.le_trans (by decide) hR.2⟩ dL_law_387 (fun H locs hH => ?_)
        refine q_aload_n hx hb dL_law_390 rfl (lv_at hl 2 rfl) ?_
        refine lv_aload_n hx hb dL_law_391 rfl (lv_at hl 0 rfl) ?_
        refine lv_iload_n hx hb dL_law_392 rfl (lv_at hl 3 rfl) ?_
        refine lv_iconst (v := 1) hx hb dL_law_393 (by decide) ?_
        refine lv_iadd hx hb dL_law_394 ?_
        obtain ⟨hz_130, hf⟩ := q_gdE hf
        refine va_sld hx hb hX hbl hbA hH.2 (q_sxE hz_130) dL_law_395 ?_
        refine lv_aload_n hx hb dL_law_396 rfl (lv_at hl 0 rfl) ?_
        refine lv_iload_n hx hb dL_law_397 rfl (lv_at hl 3 rfl) ?_
        refine lv_iconst (v := 2) hx hb dL_law_398 (by decide) ?_
        refine lv_iadd hx hb dL_law_399 ?_
        obtain ⟨hz_131, hf⟩ := q_gdE hf
        refine va_sld hx hb hX hbl hbA hH.2 (q_sxE hz_131) dL_law_400 ?_
        obtain ⟨a_132, he_133, hf⟩ := q_biE hf
        subst he_133
        obtain ⟨hk_134, hf⟩ := q_gdE hf
        have hk_134 := q_keq hk_134
        obtain ⟨r_135, M_137, hw_136, hf⟩ := q_b2E hf
        refine q_cV (As := [.int (xs (v3 + (1 : Int32)).toNatClampNeg), .int (xs (v3 + (2 : Int32)).toNatClampNeg)]) (rest := [.int r_127]) (st1 := [.int r_135, .int r_127]) E hH (tX7_base l D cA z0 a_132 (xs (v3 + (1 : Int32)).toNatClampNeg) (xs (v3 + (2 : Int32)).toNatClampNeg) Z M_129 r_135 M_137 hw_136) mw_X7_base mi_X7_base (ci := 7) rfl ms_X7_base kM_L_46 hk_134 hcc rfl rfl rfl hl.1 rfl rfl (Nat.le_of_ble_eq_true rfl) ⟨Nat.le_trans (by decide) hR.1, Nat.le_trans (by decide) hR.2⟩ dL_law_401 (fun H locs hH => ?_)
        refine lv_icmp_eq (tgt := 824) hx hb dL_law_404 (by decide) (fun cc_138 => ?_) (fun cc_138 => ?_)
        · replace hf := q_ifT cc_138 hf
          clear cc_138
          exact bL_law_824 E hR Zi hi hbd hz0 hX hbl hbA (some a_124) (some a_132) v3 M_137 _ _ _  hf hH (lv_sub hl [0, 1, 2, 3] rfl) kb kx0
        · replace hf := q_ifF cc_138 hf
          clear cc_138
          cases hf
      replace hf := q_ifF cs_368 hf
      by_cases cs_369 : (xs v3.toNatClampNeg) &&& (31 : Int32) = 7
      · replace hf := q_ifT cs_369 hf
        refine q_tin (tgt := 409) 7 hx hb dL_law_33 cs_369 (by decide) (by decide) rfl (by decide) ?_
        refine q_aload_n hx hb dL_law_409 rfl (lv_at hl 1 rfl) ?_
        obtain ⟨a_139, he_140, hf⟩ := q_biE hf
        subst he_140
        obtain ⟨hk_141, hf⟩ := q_gdE hf
        have hk_141 := q_keq hk_141
        obtain ⟨r_142, Z_145, M_144, hw_143, hf⟩ := q_b3E hf
        have hq1 := (moX6_keep _ _ _ _ _ _ hw_143)
        have hq := moL_law_b413 _ _ _ _ _ _ _ _ _ _ hf
        refine q_cV (As := []) (rest := []) (st1 := [.int r_142]) E hH (tX6_keep l D cA z0 a_139 Z M r_142 Z_145 M_144 hw_143) mw_X6_keep mi_X6_keep (ci := 6) rfl ms_X6_keep kM_L_47 hk_141 (q_bs hi hq1 hq hbd) (q_be1 hi hq1) (q_be2 hi hq1) rfl hl.1 rfl rfl (Nat.le_of_ble_eq_true rfl) ⟨Nat.le_trans (by decide) hR.1, Nat.le_trans (by decide) hR.2⟩ dL_law_410 (fun H locs hH => ?_)
        exact bL_law_413 E hR Zi (hi.tr hq1) hbd hz0 hX hbl hbA a_139 v2 v3 r_142 M_144 _ _ _  hf hH (lv_sub hl [0, 1, 2, 3] rfl) kb kx0
      replace hf := q_ifF cs_369 hf
      by_cases cs_370 : (xs v3.toNatClampNeg) &&& (31 : Int32) = 8
      · replace hf := q_ifT cs_370 hf
        refine q_tin (tgt := 422) 8 hx hb dL_law_33 cs_370 (by decide) (by decide) rfl (by decide) ?_
        refine q_aload_n hx hb dL_law_422 rfl (lv_at hl 1 rfl) ?_
        refine lv_aload_n hx hb dL_law_423 rfl (lv_at hl 0 rfl) ?_
        refine lv_iload_n hx hb dL_law_424 rfl (lv_at hl 3 rfl) ?_
        refine lv_iconst (v := 1) hx hb dL_law_425 (by decide) ?_
        refine lv_iadd hx hb dL_law_426 ?_
        obtain ⟨hz_153, hf⟩ := q_gdE hf
        refine va_sld hx hb hX hbl hbA hH.2 (q_sxE hz_153) dL_law_427 ?_
        refine lv_aload_n hx hb dL_law_428 rfl (lv_at hl 0 rfl) ?_
        refine lv_iload_n hx hb dL_law_429 rfl (lv_at hl 3 rfl) ?_
        refine lv_iconst (v := 2) hx hb dL_law_430 (by decide) ?_
        refine lv_iadd hx hb dL_law_431 ?_
        obtain ⟨hz_154, hf⟩ := q_gdE hf
        refine va_sld hx hb hX hbl hbA hH.2 (q_sxE hz_154) dL_law_432 ?_
        obtain ⟨a_155, he_156, hf⟩ := q_biE hf
        subst he_156
        obtain ⟨hk_157, hf⟩ := q_gdE hf
        have hk_157 := q_keq hk_157
        obtain ⟨r_158, hw_159, hf⟩ := q_biE hf
        refine q_cV (As := [.int (xs (v3 + (1 : Int32)).toNatClampNeg), .int (xs (v3 + (2 : Int32)).toNatClampNeg)]) (rest := []) (st1 := [.int r_158]) E hH (tX6_way l D cA z0 a_155 (xs (v3 + (1 : Int32)).toNatClampNeg) (xs (v3 + (2 : Int32)).toNatClampNeg) Z M r_158 hw_159) mw_X6_way mi_X6_way (ci := 6) rfl ms_X6_way kM_L_51 hk_157 hcc rfl rfl rfl hl.1 rfl rfl (Nat.le_of_ble_eq_true rfl) ⟨Nat.le_trans (by decide) hR.1, Nat.le_trans (by decide) hR.2⟩ dL_law_433 (fun H locs hH => ?_)
        refine q_aload_n hx hb dL_law_436 rfl (lv_at hl 2 rfl) ?_
        refine lv_aload_n hx hb dL_law_437 rfl (lv_at hl 0 rfl) ?_
        refine lv_iload_n hx hb dL_law_438 rfl (lv_at hl 3 rfl) ?_
        refine lv_iconst (v := 1) hx hb dL_law_439 (by decide) ?_
        refine lv_iadd hx hb dL_law_440 ?_
        obtain ⟨hz_160, hf⟩ := q_gdE hf
        refine va_sld hx hb hX hbl hbA hH.2 (q_sxE hz_160) dL_law_441 ?_
        refine lv_aload_n hx hb dL_law_442 rfl (lv_at hl 0 rfl) ?_
        refine lv_iload_n hx hb dL_law_443 rfl (lv_at hl 3 rfl) ?_
        refine lv_iconst (v := 2) hx hb dL_law_444 (by decide) ?_
        refine lv_iadd hx hb dL_law_445 ?_
        obtain ⟨hz_161, hf⟩ := q_gdE hf
        refine va_sld hx hb hX hbl hbA hH.2 (q_sxE hz_161) dL_law_446 ?_
        obtain ⟨a_162, he_163, hf⟩ := q_biE hf
        subst he_163
        obtain ⟨hk_164, hf⟩ := q_gdE hf
        have hk_164 := q_keq hk_164
        obtain ⟨r_165, hw_166, hf⟩ := q_biE hf
        refine q_cV (As := [.int (xs (v3 + (1 : Int32)).toNatClampNeg), .int (xs (v3 + (2 : Int32)).toNatClampNeg)]) (rest := [.int r_158]) (st1 := [.int r_165, .int r_158]) E hH (tX7_way l D cA z0 a_162 (xs (v3 + (1 : Int32)).toNatClampNeg) (xs (v3 + (2 : Int32)).toNatClampNeg) Z M r_165 hw_166) mw_X7_way mi_X7_way (ci := 7) rfl ms_X7_way kM_L_54 hk_164 hcc rfl rfl rfl hl.1 rfl rfl (Nat.le_of_ble_eq_true rfl) ⟨Nat.le_trans (by decide) hR.1, Nat.le_trans (by decide) hR.2⟩ dL_law_447 (fun H locs hH => ?_)
        refine lv_icmp_eq (tgt := 824) hx hb dL_law_450 (by decide) (fun cc_167 => ?_) (fun cc_167 => ?_)
        · replace hf := q_ifT cc_167 hf
          clear cc_167
          exact bL_law_824 E hR Zi hi hbd hz0 hX hbl hbA (some a_155) (some a_162) v3 M _ _ _  hf hH (lv_sub hl [0, 1, 2, 3] rfl) kb kx0
        · replace hf := q_ifF cc_167 hf
          clear cc_167
          cases hf
      replace hf := q_ifF cs_370 hf
      by_cases cs_371 : (xs v3.toNatClampNeg) &&& (31 : Int32) = 9
      · replace hf := q_ifT cs_371 hf
        refine q_tin (tgt := 455) 9 hx hb dL_law_33 cs_371 (by decide) (by decide) rfl (by decide) ?_
        refine q_aload_n hx hb dL_law_455 rfl (lv_at hl 1 rfl) ?_
        refine lv_aload_n hx hb dL_law_456 rfl (lv_at hl 0 rfl) ?_
        refine lv_iload_n hx hb dL_law_457 rfl (lv_at hl 3 rfl) ?_
        refine lv_iconst (v := 1) hx hb dL_law_458 (by decide) ?_
        refine lv_iadd hx hb dL_law_459 ?_
        obtain ⟨hz_168, hf⟩ := q_gdE hf
        refine va_sld hx hb hX hbl hbA hH.2 (q_sxE hz_168) dL_law_460 ?_
        refine lv_aload_n hx hb dL_law_461 rfl (lv_at hl 0 rfl) ?_
        refine lv_iload_n hx hb dL_law_462 rfl (lv_at hl 3 rfl) ?_
        refine lv_iconst (v := 2) hx hb dL_law_463 (by decide) ?_
        refine lv_iadd hx hb dL_law_464 ?_
        obtain ⟨hz_169, hf⟩ := q_gdE hf
        refine va_sld hx hb hX hbl hbA hH.2 (q_sxE hz_169) dL_law_465 ?_
        refine lv_aload_n hx hb dL_law_466 rfl (lv_at hl 0 rfl) ?_
        refine lv_iload_n hx hb dL_law_467 rfl (lv_at hl 3 rfl) ?_
        refine lv_iconst (v := 3) hx hb dL_law_468 (by decide) ?_
        refine lv_iadd hx hb dL_law_469 ?_
        obtain ⟨hz_170, hf⟩ := q_gdE hf
        refine va_sld hx hb hX hbl hbA hH.2 (q_sxE hz_170) dL_law_470 ?_
        obtain ⟨a_171, he_172, hf⟩ := q_biE hf
        subst he_172
        obtain ⟨hk_173, hf⟩ := q_gdE hf
        have hk_173 := q_keq hk_173
        obtain ⟨r_174, Z_177, M_176, hw_175, hf⟩ := q_b3E hf
        have hq1 := (moX6_at _ _ _ _ _ _ _ _ _ hw_175)
        have hq := moL_law_b474 _ _ _ _ _ _ _ _ _ _ hf
        refine q_cV (As := [.int (xs (v3 + (1 : Int32)).toNatClampNeg), .int (xs (v3 + (2 : Int32)).toNatClampNeg), .int (xs (v3 + (3 : Int32)).toNatClampNeg)]) (rest := []) (st1 := [.int r_174]) E hH (tX6_at l D cA z0 a_171 (xs (v3 + (1 : Int32)).toNatClampNeg) (xs (v3 + (2 : Int32)).toNatClampNeg) (xs (v3 + (3 : Int32)).toNatClampNeg) Z M r_174 Z_177 M_176 hw_175) mw_X6_at mi_X6_at (ci := 6) rfl ms_X6_at kM_L_55 hk_173 (q_bs hi hq1 hq hbd) (q_be1 hi hq1) (q_be2 hi hq1) rfl hl.1 rfl rfl (Nat.le_of_ble_eq_true rfl) ⟨Nat.le_trans (by decide) hR.1, Nat.le_trans (by decide) hR.2⟩ dL_law_471 (fun H locs hH => ?_)
        exact bL_law_474 E hR Zi (hi.tr hq1) hbd hz0 hX hbl hbA a_171 v2 v3 r_174 M_176 _ _ _  hf hH (lv_sub hl [0, 1, 2, 3] rfl) kb kx0
      replace hf := q_ifF cs_371 hf
      by_cases cs_372 : (xs v3.toNatClampNeg) &&& (31 : Int32) = 10
      · replace hf := q_ifT cs_372 hf
        refine q_tin (tgt := 498) 10 hx hb dL_law_33 cs_372 (by decide) (by decide) rfl (by decide) ?_
        refine q_aload_n hx hb dL_law_498 rfl (lv_at hl 1 rfl) ?_
        refine lv_aload_n hx hb dL_law_499 rfl (lv_at hl 0 rfl) ?_
        refine lv_iload_n hx hb dL_law_500 rfl (lv_at hl 3 rfl) ?_
        refine lv_iconst (v := 1) hx hb dL_law_501 (by decide) ?_
        refine lv_iadd hx hb dL_law_502 ?_
        obtain ⟨hz_187, hf⟩ := q_gdE hf
        refine va_sld hx hb hX hbl hbA hH.2 (q_sxE hz_187) dL_law_503 ?_
        refine lv_aload_n hx hb dL_law_504 rfl (lv_at hl 0 rfl) ?_
        refine lv_iload_n hx hb dL_law_505 rfl (lv_at hl 3 rfl) ?_
        refine lv_iconst (v := 2) hx hb dL_law_506 (by decide) ?_
        refine lv_iadd hx hb dL_law_507 ?_
        obtain ⟨hz_188, hf⟩ := q_gdE hf
        refine va_sld hx hb hX hbl hbA hH.2 (q_sxE hz_188) dL_law_508 ?_
        obtain ⟨a_189, he_190, hf⟩ := q_biE hf
        subst he_190
        obtain ⟨hk_191, hf⟩ := q_gdE hf
        have hk_191 := q_keq hk_191
        obtain ⟨r_192, Z_195, M_194, hw_193, hf⟩ := q_b3E hf
        have hq1 := (moX6_fits _ _ _ _ _ _ _ _ hw_193)
        have hq := moL_law_b512 _ _ _ _ _ _ _ _ _ _ hf
        refine q_cV (As := [.int (xs (v3 + (1 : Int32)).toNatClampNeg), .int (xs (v3 + (2 : Int32)).toNatClampNeg)]) (rest := []) (st1 := [.int r_192]) E hH (tX6_fits l D cA z0 a_189 (xs (v3 + (1 : Int32)).toNatClampNeg) (xs (v3 + (2 : Int32)).toNatClampNeg) Z M r_192 Z_195 M_194 hw_193) mw_X6_fits mi_X6_fits (ci := 6) rfl ms_X6_fits kM_L_60 hk_191 (q_bs hi hq1 hq hbd) (q_be1 hi hq1) (q_be2 hi hq1) rfl hl.1 rfl rfl (Nat.le_of_ble_eq_true rfl) ⟨Nat.le_trans (by decide) hR.1, Nat.le_trans (by decide) hR.2⟩ dL_law_509 (fun H locs hH => ?_)
        exact bL_law_512 E hR Zi (hi.tr hq1) hbd hz0 hX hbl hbA a_189 v2 v3 r_192 M_194 _ _ _  hf hH (lv_sub hl [0, 1, 2, 3] rfl) kb kx0
      replace hf := q_ifF cs_372 hf
      by_cases cs_373 : (xs v3.toNatClampNeg) &&& (31 : Int32) = 11
      · replace hf := q_ifT cs_373 hf
        refine q_tin (tgt := 531) 11 hx hb dL_law_33 cs_373 (by decide) (by decide) rfl (by decide) ?_
        refine q_aload_n hx hb dL_law_531 rfl (lv_at hl 1 rfl) ?_
        refine lv_aload_n hx hb dL_law_532 rfl (lv_at hl 0 rfl) ?_
        refine lv_iload_n hx hb dL_law_533 rfl (lv_at hl 3 rfl) ?_
        refine lv_iconst (v := 1) hx hb dL_law_534 (by decide) ?_
        refine lv_iadd hx hb dL_law_535 ?_
        obtain ⟨hz_204, hf⟩ := q_gdE hf
        refine va_sld hx hb hX hbl hbA hH.2 (q_sxE hz_204) dL_law_536 ?_
        obtain ⟨a_205, he_206, hf⟩ := q_biE hf
        subst he_206
        obtain ⟨hk_207, hf⟩ := q_gdE hf
        have hk_207 := q_keq hk_207
        obtain ⟨r_208, Z_211, M_210, hw_209, hf⟩ := q_b3E hf
        have hq1 := (moX6_fitting _ _ _ _ _ _ _ hw_209)
        have hq := moL_law_b540 _ _ _ _ _ _ _ _ _ _ hf
        refine q_cV (As := [.int (xs (v3 + (1 : Int32)).toNatClampNeg)]) (rest := []) (st1 := [.int r_208]) E hH (tX6_fitting l D cA z0 a_205 (xs (v3 + (1 : Int32)).toNatClampNeg) Z M r_208 Z_211 M_210 hw_209) mw_X6_fitting mi_X6_fitting (ci := 6) rfl ms_X6_fitting kM_L_64 hk_207 (q_bs hi hq1 hq hbd) (q_be1 hi hq1) (q_be2 hi hq1) rfl hl.1 rfl rfl (Nat.le_of_ble_eq_true rfl) ⟨Nat.le_trans (by decide) hR.1, Nat.le_trans (by decide) hR.2⟩ dL_law_537 (fun H locs hH => ?_)
        exact bL_law_540 E hR Zi (hi.tr hq1) hbd hz0 hX hbl hbA a_205 v2 v3 r_208 M_210 _ _ _  hf hH (lv_sub hl [0, 1, 2, 3] rfl) kb kx0
      replace hf := q_ifF cs_373 hf
      by_cases cs_374 : (xs v3.toNatClampNeg) &&& (31 : Int32) = 12
      · replace hf := q_ifT cs_374 hf
        refine q_tin (tgt := 554) 12 hx hb dL_law_33 cs_374 (by decide) (by decide) rfl (by decide) ?_
        refine q_aload_n hx hb dL_law_554 rfl (lv_at hl 1 rfl) ?_
        refine lv_aload_n hx hb dL_law_555 rfl (lv_at hl 0 rfl) ?_
        refine lv_iload_n hx hb dL_law_556 rfl (lv_at hl 3 rfl) ?_
        refine lv_iconst (v := 1) hx hb dL_law_557 (by decide) ?_
        refine lv_iadd hx hb dL_law_558 ?_
        obtain ⟨hz_219, hf⟩ := q_gdE hf
        refine va_sld hx hb hX hbl hbA hH.2 (q_sxE hz_219) dL_law_559 ?_
        obtain ⟨a_220, he_221, hf⟩ := q_biE hf
        subst he_221
        obtain ⟨hk_222, hf⟩ := q_gdE hf
        have hk_222 := q_keq hk_222
        obtain ⟨r_223, Z_226, M_225, hw_224, hf⟩ := q_b3E hf
        have hq1 := (moX6_without _ _ _ _ _ _ _ hw_224)
        have hq := moL_law_b563 _ _ _ _ _ _ _ _ _ _ hf
        refine q_cV (As := [.int (xs (v3 + (1 : Int32)).toNatClampNeg)]) (rest := []) (st1 := [.int r_223]) E hH (tX6_without l D cA z0 a_220 (xs (v3 + (1 : Int32)).toNatClampNeg) Z M r_223 Z_226 M_225 hw_224) mw_X6_without mi_X6_without (ci := 6) rfl ms_X6_without kM_L_69 hk_222 (q_bs hi hq1 hq hbd) (q_be1 hi hq1) (q_be2 hi hq1) rfl hl.1 rfl rfl (Nat.le_of_ble_eq_true rfl) ⟨Nat.le_trans (by decide) hR.1, Nat.le_trans (by decide) hR.2⟩ dL_law_560 (fun H locs hH => ?_)
        exact bL_law_563 E hR Zi (hi.tr hq1) hbd hz0 hX hbl hbA a_220 v2 v3 r_223 M_225 _ _ _  hf hH (lv_sub hl [0, 1, 2, 3] rfl) kb kx0
      replace hf := q_ifF cs_374 hf
      by_cases cs_375 : (xs v3.toNatClampNeg) &&& (31 : Int32) = 13
      · replace hf := q_ifT cs_375 hf
        refine q_tin (tgt := 577) 13 hx hb dL_law_33 cs_375 (by decide) (by decide) rfl (by decide) ?_
        refine q_aload_n hx hb dL_law_577 rfl (lv_at hl 1 rfl) ?_
        refine lv_aload_n hx hb dL_law_578 rfl (lv_at hl 0 rfl) ?_
        refine lv_iload_n hx hb dL_law_579 rfl (lv_at hl 3 rfl) ?_
        refine lv_iconst (v := 1) hx hb dL_law_580 (by decide) ?_
        refine lv_iadd hx hb dL_law_581 ?_
        obtain ⟨hz_235, hf⟩ := q_gdE hf
        refine va_sld hx hb hX hbl hbA hH.2 (q_sxE hz_235) dL_law_582 ?_
        obtain ⟨a_236, he_237, hf⟩ := q_biE hf
        subst he_237
        obtain ⟨hk_238, hf⟩ := q_gdE hf
        have hk_238 := q_keq hk_238
        obtain ⟨r_239, Z_242, M_241, hw_240, hf⟩ := q_b3E hf
        have hq1 := (moX6_patch _ _ _ _ _ _ _ hw_240)
        have hq := moL_law_b586 _ _ _ _ _ _ _ _ _ _ hf
        refine q_cV (As := [.int (xs (v3 + (1 : Int32)).toNatClampNeg)]) (rest := []) (st1 := [.int r_239]) E hH (tX6_patch l D cA z0 a_236 (xs (v3 + (1 : Int32)).toNatClampNeg) Z M r_239 Z_242 M_241 hw_240) mw_X6_patch mi_X6_patch (ci := 6) rfl ms_X6_patch kM_L_73 hk_238 (q_bs hi hq1 hq hbd) (q_be1 hi hq1) (q_be2 hi hq1) rfl hl.1 rfl rfl (Nat.le_of_ble_eq_true rfl) ⟨Nat.le_trans (by decide) hR.1, Nat.le_trans (by decide) hR.2⟩ dL_law_583 (fun H locs hH => ?_)
        exact bL_law_586 E hR Zi (hi.tr hq1) hbd hz0 hX hbl hbA a_236 v2 v3 r_239 M_241 _ _ _  hf hH (lv_sub hl [0, 1, 2, 3] rfl) kb kx0
      replace hf := q_ifF cs_375 hf
      by_cases cs_376 : (xs v3.toNatClampNeg) &&& (31 : Int32) = 14
      · replace hf := q_ifT cs_376 hf
        refine q_tin (tgt := 600) 14 hx hb dL_law_33 cs_376 (by decide) (by decide) rfl (by decide) ?_
        refine q_aload_n hx hb dL_law_600 rfl (lv_at hl 1 rfl) ?_
        refine lv_aload_n hx hb dL_law_601 rfl (lv_at hl 0 rfl) ?_
        refine lv_iload_n hx hb dL_law_602 rfl (lv_at hl 3 rfl) ?_
        refine lv_iconst (v := 1) hx hb dL_law_603 (by decide) ?_
        refine lv_iadd hx hb dL_law_604 ?_
        obtain ⟨hz_250, hf⟩ := q_gdE hf
        refine va_sld hx hb hX hbl hbA hH.2 (q_sxE hz_250) dL_law_605 ?_
        refine lv_aload_n hx hb dL_law_606 rfl (lv_at hl 0 rfl) ?_
        refine lv_iload_n hx hb dL_law_607 rfl (lv_at hl 3 rfl) ?_
        refine lv_iconst (v := 2) hx hb dL_law_608 (by decide) ?_
        refine lv_iadd hx hb dL_law_609 ?_
        obtain ⟨hz_251, hf⟩ := q_gdE hf
        refine va_sld hx hb hX hbl hbA hH.2 (q_sxE hz_251) dL_law_610 ?_
        refine lv_if_eq (tgt := 618) hx hb dL_law_611 (by decide) (fun cc_268 => ?_) (fun cc_268 => ?_)
        · replace hf := q_ifT cc_268 hf
          clear cc_268
          refine lv_iconst (v := 0) hx hb dL_law_618 (by decide) ?_
          exact bL_law_619 E hR Zi hi hbd hz0 hX hbl hbA v1 v2 v3 (0 : Int32) (xs (v3 + (1 : Int32)).toNatClampNeg) v1 M _ _ _  hf hH (lv_sub hl [0, 1, 2, 3] rfl) kb kx0
        · replace hf := q_ifF cc_268 hf
          clear cc_268
          refine lv_iconst (v := 1) hx hb dL_law_614 (by decide) ?_
          refine lv_goto (tgt := 619) hx hb dL_law_615 (by decide) ?_
          exact bL_law_619 E hR Zi hi hbd hz0 hX hbl hbA v1 v2 v3 (1 : Int32) (xs (v3 + (1 : Int32)).toNatClampNeg) v1 M _ _ _  hf hH (lv_sub hl [0, 1, 2, 3] rfl) kb kx0
      replace hf := q_ifF cs_376 hf
      by_cases cs_377 : (xs v3.toNatClampNeg) &&& (31 : Int32) = 15
      · replace hf := q_ifT cs_377 hf
        refine q_tin (tgt := 649) 15 hx hb dL_law_33 cs_377 (by decide) (by decide) rfl (by decide) ?_
        refine q_aload_n hx hb dL_law_649 rfl (lv_at hl 1 rfl) ?_
        refine lv_aload_n hx hb dL_law_650 rfl (lv_at hl 0 rfl) ?_
        refine lv_iload_n hx hb dL_law_651 rfl (lv_at hl 3 rfl) ?_
        refine lv_iconst (v := 1) hx hb dL_law_652 (by decide) ?_
        refine lv_iadd hx hb dL_law_653 ?_
        obtain ⟨hz_269, hf⟩ := q_gdE hf
        refine va_sld hx hb hX hbl hbA hH.2 (q_sxE hz_269) dL_law_654 ?_
        refine lv_aload_n hx hb dL_law_655 rfl (lv_at hl 0 rfl) ?_
        refine lv_iload_n hx hb dL_law_656 rfl (lv_at hl 3 rfl) ?_
        refine lv_iconst (v := 2) hx hb dL_law_657 (by decide) ?_
        refine lv_iadd hx hb dL_law_658 ?_
        obtain ⟨hz_270, hf⟩ := q_gdE hf
        refine va_sld hx hb hX hbl hbA hH.2 (q_sxE hz_270) dL_law_659 ?_
        obtain ⟨a_271, he_272, hf⟩ := q_biE hf
        subst he_272
        obtain ⟨hk_273, hf⟩ := q_gdE hf
        have hk_273 := q_keq hk_273
        obtain ⟨r_274, Z_277, M_276, hw_275, hf⟩ := q_b3E hf
        have hq1 := (moX6_tells _ _ _ _ _ _ _ _ hw_275)
        have hq := moL_law_b663 _ _ _ _ _ _ _ _ _ _ hf
        refine q_cV (As := [.int (xs (v3 + (1 : Int32)).toNatClampNeg), .int (xs (v3 + (2 : Int32)).toNatClampNeg)]) (rest := []) (st1 := [.int r_274]) E hH (tX6_tells l D cA z0 a_271 (xs (v3 + (1 : Int32)).toNatClampNeg) (xs (v3 + (2 : Int32)).toNatClampNeg) Z M r_274 Z_277 M_276 hw_275) mw_X6_tells mi_X6_tells (ci := 6) rfl ms_X6_tells kM_L_82 hk_273 (q_bs hi hq1 hq hbd) (q_be1 hi hq1) (q_be2 hi hq1) rfl hl.1 rfl rfl (Nat.le_of_ble_eq_true rfl) ⟨Nat.le_trans (by decide) hR.1, Nat.le_trans (by decide) hR.2⟩ dL_law_660 (fun H locs hH => ?_)
        exact bL_law_663 E hR Zi (hi.tr hq1) hbd hz0 hX hbl hbA a_271 v2 v3 r_274 M_276 _ _ _  hf hH (lv_sub hl [0, 1, 2, 3] rfl) kb kx0
      replace hf := q_ifF cs_377 hf
      by_cases cs_378 : (xs v3.toNatClampNeg) &&& (31 : Int32) = 16
      · replace hf := q_ifT cs_378 hf
        refine q_tin (tgt := 682) 16 hx hb dL_law_33 cs_378 (by decide) (by decide) rfl (by decide) ?_
        refine q_aload_n hx hb dL_law_682 rfl (lv_at hl 1 rfl) ?_
        refine lv_aload_n hx hb dL_law_683 rfl (lv_at hl 0 rfl) ?_
        refine lv_iload_n hx hb dL_law_684 rfl (lv_at hl 3 rfl) ?_
        refine lv_iconst (v := 1) hx hb dL_law_685 (by decide) ?_
        refine lv_iadd hx hb dL_law_686 ?_
        obtain ⟨hz_286, hf⟩ := q_gdE hf
        refine va_sld hx hb hX hbl hbA hH.2 (q_sxE hz_286) dL_law_687 ?_
        obtain ⟨a_287, he_288, hf⟩ := q_biE hf
        subst he_288
        obtain ⟨hk_289, hf⟩ := q_gdE hf
        have hk_289 := q_keq hk_289
        obtain ⟨r_290, Z_293, M_292, hw_291, hf⟩ := q_b3E hf
        have hq1 := (moX6_period _ _ _ _ _ _ _ hw_291)
        have hq := moL_law_b691 _ _ _ _ _ _ _ _ _ _ hf
        refine q_cV (As := [.int (xs (v3 + (1 : Int32)).toNatClampNeg)]) (rest := []) (st1 := [.int r_290]) E hH (tX6_period l D cA z0 a_287 (xs (v3 + (1 : Int32)).toNatClampNeg) Z M r_290 Z_293 M_292 hw_291) mw_X6_period mi_X6_period (ci := 6) rfl ms_X6_period kM_L_86 hk_289 (q_bs hi hq1 hq hbd) (q_be1 hi hq1) (q_be2 hi hq1) rfl hl.1 rfl rfl (Nat.le_of_ble_eq_true rfl) ⟨Nat.le_trans (by decide) hR.1, Nat.le_trans (by decide) hR.2⟩ dL_law_688 (fun H locs hH => ?_)
        exact bL_law_691 E hR Zi (hi.tr hq1) hbd hz0 hX hbl hbA a_287 v2 v3 r_290 M_292 _ _ _  hf hH (lv_sub hl [0, 1, 2, 3] rfl) kb kx0
      replace hf := q_ifF cs_378 hf
      by_cases cs_379 : (xs v3.toNatClampNeg) &&& (31 : Int32) = 17
      · replace hf := q_ifT cs_379 hf
        refine q_tin (tgt := 705) 17 hx hb dL_law_33 cs_379 (by decide) (by decide) rfl (by decide) ?_
        refine q_aload_n hx hb dL_law_705 rfl (lv_at hl 1 rfl) ?_
        refine lv_aload_n hx hb dL_law_706 rfl (lv_at hl 0 rfl) ?_
        refine lv_iload_n hx hb dL_law_707 rfl (lv_at hl 3 rfl) ?_
        refine lv_iconst (v := 1) hx hb dL_law_708 (by decide) ?_
        refine lv_iadd hx hb dL_law_709 ?_
        obtain ⟨hz_301, hf⟩ := q_gdE hf
        refine va_sld hx hb hX hbl hbA hH.2 (q_sxE hz_301) dL_law_710 ?_
        refine lv_if_eq (tgt := 718) hx hb dL_law_711 (by decide) (fun cc_317 => ?_) (fun cc_317 => ?_)
        · replace hf := q_ifT cc_317 hf
          clear cc_317
          refine lv_iconst (v := 0) hx hb dL_law_718 (by decide) ?_
          exact bL_law_719 E hR Zi hi hbd hz0 hX hbl hbA v1 v2 v3 (0 : Int32) v1 M _ _ _  hf hH (lv_sub hl [0, 1, 2, 3] rfl) kb kx0
        · replace hf := q_ifF cc_317 hf
          clear cc_317
          refine lv_iconst (v := 1) hx hb dL_law_714 (by decide) ?_
          refine lv_goto (tgt := 719) hx hb dL_law_715 (by decide) ?_
          exact bL_law_719 E hR Zi hi hbd hz0 hX hbl hbA v1 v2 v3 (1 : Int32) v1 M _ _ _  hf hH (lv_sub hl [0, 1, 2, 3] rfl) kb kx0
      replace hf := q_ifF cs_379 hf
      by_cases cs_380 : (xs v3.toNatClampNeg) &&& (31 : Int32) = 18
      · replace hf := q_ifT cs_380 hf
        refine q_tin (tgt := 744) 18 hx hb dL_law_33 cs_380 (by decide) (by decide) rfl (by decide) ?_
        refine q_aload_n hx hb dL_law_744 rfl (lv_at hl 1 rfl) ?_
        refine lv_aload_n hx hb dL_law_745 rfl (lv_at hl 0 rfl) ?_
        refine lv_iload_n hx hb dL_law_746 rfl (lv_at hl 3 rfl) ?_
        refine lv_iconst (v := 1) hx hb dL_law_747 (by decide) ?_
        refine lv_iadd hx hb dL_law_748 ?_
        obtain ⟨hz_318, hf⟩ := q_gdE hf
        refine va_sld hx hb hX hbl hbA hH.2 (q_sxE hz_318) dL_law_749 ?_
        refine lv_aload_n hx hb dL_law_750 rfl (lv_at hl 0 rfl) ?_
        refine lv_iload_n hx hb dL_law_751 rfl (lv_at hl 3 rfl) ?_
        refine lv_iconst (v := 2) hx hb dL_law_752 (by decide) ?_
        refine lv_iadd hx hb dL_law_753 ?_
        obtain ⟨hz_319, hf⟩ := q_gdE hf
        refine va_sld hx hb hX hbl hbA hH.2 (q_sxE hz_319) dL_law_754 ?_
        refine lv_aload_n hx hb dL_law_755 rfl (lv_at hl 0 rfl) ?_
        refine lv_iload_n hx hb dL_law_756 rfl (lv_at hl 3 rfl) ?_
        refine lv_iconst (v := 3) hx hb dL_law_757 (by decide) ?_
        refine lv_iadd hx hb dL_law_758 ?_
        obtain ⟨hz_320, hf⟩ := q_gdE hf
        refine va_sld hx hb hX hbl hbA hH.2 (q_sxE hz_320) dL_law_759 ?_
        obtain ⟨a_321, he_322, hf⟩ := q_biE hf
        subst he_322
        obtain ⟨hk_323, hf⟩ := q_gdE hf
        have hk_323 := q_keq hk_323
        obtain ⟨r_324, Z_327, M_326, hw_325, hf⟩ := q_b3E hf
        have hq1 := (moX6_near _ _ _ _ _ _ _ _ _ hw_325)
        have hq := moL_law_b763 _ _ _ _ _ _ _ _ _ _ hf
        refine q_cV (As := [.int (xs (v3 + (1 : Int32)).toNatClampNeg), .int (xs (v3 + (2 : Int32)).toNatClampNeg), .int (xs (v3 + (3 : Int32)).toNatClampNeg)]) (rest := []) (st1 := [.long r_324]) E hH (tX6_near l D cA z0 a_321 (xs (v3 + (1 : Int32)).toNatClampNeg) (xs (v3 + (2 : Int32)).toNatClampNeg) (xs (v3 + (3 : Int32)).toNatClampNeg) Z M r_324 Z_327 M_326 hw_325) mw_X6_near mi_X6_near (ci := 6) rfl ms_X6_near kM_L_95 hk_323 (q_bs hi hq1 hq hbd) (q_be1 hi hq1) (q_be2 hi hq1) rfl hl.1 rfl rfl (Nat.le_of_ble_eq_true rfl) ⟨Nat.le_trans (by decide) hR.1, Nat.le_trans (by decide) hR.2⟩ dL_law_760 (fun H locs hH => ?_)
        exact bL_law_763 E hR Zi (hi.tr hq1) hbd hz0 hX hbl hbA a_321 v2 v3 r_324 M_326 _ _ _  hf hH (lv_sub hl [0, 1, 2, 3] rfl) kb kx0
      replace hf := q_ifF cs_380 hf
      by_cases cs_381 : (xs v3.toNatClampNeg) &&& (31 : Int32) = 19
      · replace hf := q_ifT cs_381 hf
        refine q_tin (tgt := 788) 19 hx hb dL_law_33 cs_381 (by decide) (by decide) rfl (by decide) ?_
        refine q_aload_n hx hb dL_law_788 rfl (lv_at hl 1 rfl) ?_
        obtain ⟨a_338, he_339, hf⟩ := q_biE hf
        subst he_339
        obtain ⟨hk_340, hf⟩ := q_gdE hf
        have hk_340 := q_keq hk_340
        obtain ⟨r_341, hw_342, hf⟩ := q_biE hf
        refine q_cV (As := []) (rest := []) (st1 := [.int r_341]) E hH (tX6_nearest l D cA z0 a_338 Z M r_341 hw_342) mw_X6_nearest mi_X6_nearest (ci := 6) rfl ms_X6_nearest kM_L_100 hk_340 hcc rfl rfl rfl hl.1 rfl rfl (Nat.le_of_ble_eq_true rfl) ⟨Nat.le_trans (by decide) hR.1, Nat.le_trans (by decide) hR.2⟩ dL_law_789 (fun H locs hH => ?_)
        refine q_aload_n hx hb dL_law_792 rfl (lv_at hl 2 rfl) ?_
        obtain ⟨a_343, he_344, hf⟩ := q_biE hf
        subst he_344
        obtain ⟨hk_345, hf⟩ := q_gdE hf
        have hk_345 := q_keq hk_345
        obtain ⟨r_346, hw_347, hf⟩ := q_biE hf
        refine q_cV (As := []) (rest := [.int r_341]) (st1 := [.int r_346, .int r_341]) E hH (tX7_nearest l D cA z0 a_343 Z M r_346 hw_347) mw_X7_nearest mi_X7_nearest (ci := 7) rfl ms_X7_nearest kM_L_103 hk_345 hcc rfl rfl rfl hl.1 rfl rfl (Nat.le_of_ble_eq_true rfl) ⟨Nat.le_trans (by decide) hR.1, Nat.le_trans (by decide) hR.2⟩ dL_law_793 (fun H locs hH => ?_)
        refine lv_icmp_eq (tgt := 824) hx hb dL_law_796 (by decide) (fun cc_348 => ?_) (fun cc_348 => ?_)
        · replace hf := q_ifT cc_348 hf
          clear cc_348
          exact bL_law_824 E hR Zi hi hbd hz0 hX hbl hbA (some a_338) (some a_343) v3 M _ _ _  hf hH (lv_sub hl [0, 1, 2, 3] rfl) kb kx0
        · replace hf := q_ifF cc_348 hf
          clear cc_348
          cases hf
      replace hf := q_ifF cs_381 hf
      by_cases cs_382 : (xs v3.toNatClampNeg) &&& (31 : Int32) = 20
      · replace hf := q_ifT cs_382 hf
        refine q_tin (tgt := 801) 20 hx hb dL_law_33 cs_382 (by decide) (by decide) rfl (by decide) ?_
        refine q_aload_n hx hb dL_law_801 rfl (lv_at hl 1 rfl) ?_
        refine lv_aload_n hx hb dL_law_802 rfl (lv_at hl 0 rfl) ?_
        refine lv_iload_n hx hb dL_law_803 rfl (lv_at hl 3 rfl) ?_
        refine lv_iconst (v := 1) hx hb dL_law_804 (by decide) ?_
        refine lv_iadd hx hb dL_law_805 ?_
        obtain ⟨hz_349, hf⟩ := q_gdE hf
        refine va_sld hx hb hX hbl hbA hH.2 (q_sxE hz_349) dL_law_806 ?_
        obtain ⟨a_350, he_351, hf⟩ := q_biE hf
        subst he_351
        obtain ⟨hk_352, hf⟩ := q_gdE hf
        have hk_352 := q_keq hk_352
        obtain ⟨r_353, hw_354, hf⟩ := q_biE hf
        refine q_cV (As := [.int (xs (v3 + (1 : Int32)).toNatClampNeg)]) (rest := []) (st1 := [.int r_353]) E hH (tX6_all l D cA z0 a_350 (xs (v3 + (1 : Int32)).toNatClampNeg) Z M r_353 hw_354) mw_X6_all mi_X6_all (ci := 6) rfl ms_X6_all kM_L_104 hk_352 hcc rfl rfl rfl hl.1 rfl rfl (Nat.le_of_ble_eq_true rfl) ⟨Nat.le_trans (by decide) hR.1, Nat.le_trans (by decide) hR.2⟩ dL_law_807 (fun H locs hH => ?_)
        refine q_aload_n hx hb dL_law_810 rfl (lv_at hl 2 rfl) ?_
        refine lv_aload_n hx hb dL_law_811 rfl (lv_at hl 0 rfl) ?_
        refine lv_iload_n hx hb dL_law_812 rfl (lv_at hl 3 rfl) ?_
        refine lv_iconst (v := 1) hx hb dL_law_813 (by decide) ?_
        refine lv_iadd hx hb dL_law_814 ?_
        obtain ⟨hz_355, hf⟩ := q_gdE hf
        refine va_sld hx hb hX hbl hbA hH.2 (q_sxE hz_355) dL_law_815 ?_
        obtain ⟨a_356, he_357, hf⟩ := q_biE hf
        subst he_357
        obtain ⟨hk_358, hf⟩ := q_gdE hf
        have hk_358 := q_keq hk_358
        obtain ⟨r_359, hw_360, hf⟩ := q_biE hf
        refine q_cV (As := [.int (xs (v3 + (1 : Int32)).toNatClampNeg)]) (rest := [.int r_353]) (st1 := [.int r_359, .int r_353]) E hH (tX7_all l D cA z0 a_356 (xs (v3 + (1 : Int32)).toNatClampNeg) Z M r_359 hw_360) mw_X7_all mi_X7_all (ci := 7) rfl ms_X7_all kM_L_107 hk_358 hcc rfl rfl rfl hl.1 rfl rfl (Nat.le_of_ble_eq_true rfl) ⟨Nat.le_trans (by decide) hR.1, Nat.le_trans (by decide) hR.2⟩ dL_law_816 (fun H locs hH => ?_)
        refine lv_icmp_eq (tgt := 824) hx hb dL_law_819 (by decide) (fun cc_361 => ?_) (fun cc_361 => ?_)
        · replace hf := q_ifT cc_361 hf
          clear cc_361
          exact bL_law_824 E hR Zi hi hbd hz0 hX hbl hbA (some a_350) (some a_356) v3 M _ _ _  hf hH (lv_sub hl [0, 1, 2, 3] rfl) kb kx0
        · replace hf := q_ifF cc_361 hf
          clear cc_361
          cases hf
      replace hf := q_ifF cs_382 hf
      refine q_tout (tgt := 824) 21 hx hb dL_law_33 rfl (fun k hk => match k, hk with | 0, _ => cs_362 | 1, _ => cs_363 | 2, _ => cs_364 | 3, _ => cs_365 | 4, _ => cs_366 | 5, _ => cs_367 | 6, _ => cs_368 | 7, _ => cs_369 | 8, _ => cs_370 | 9, _ => cs_371 | 10, _ => cs_372 | 11, _ => cs_373 | 12, _ => cs_374 | 13, _ => cs_375 | 14, _ => cs_376 | 15, _ => cs_377 | 16, _ => cs_378 | 17, _ => cs_379 | 18, _ => cs_380 | 19, _ => cs_381 | 20, _ => cs_382 | k + 21, hk => absurd hk (by omega)) (by decide) ?_
      exact bL_law_824 E hR Zi hi hbd hz0 hX hbl hbA v1 v2 v3 M _ _ _  hf hH (lv_sub hl [0, 1, 2, 3] rfl) kb kx0
def fL_law_b830 (b L : Nat) (xs : Nat → Int32) (Z : q_Z) (M : q_C) : Option (Int32 × q_Z × q_C) :=
  some ((1 : Int32), Z, M)
theorem moL_law_b830 (b L : Nat) (xs : Nat → Int32) (Z : q_Z) (M : q_C) (r : Int32) (Z' : q_Z) (M' : q_C) (hf : fL_law_b830 b L xs Z M = some (r, Z', M')) : q_le Z Z' := by
  unfold fL_law_b830 at hf
  cases hf
  exact q_le.rf
set_option maxHeartbeats 4000000 in
set_option maxRecDepth 100000 in
theorem bL_law_830 (E : q_E p s m meth c cL_law 4 RL ret meth.name D cA) (hR : 7 ≤ room_1.frames ∧ 181 ≤ room_1.locals) (Zi : q_Z) {Z : q_Z} (hi : q_le Zi Z) {r : Int32} {Z' : q_Z} {M' : q_C} (hbd : zS Z' - zS Zi ≤ 600000 ∧ zC Z' - zC Zi ≤ 7302250) {b L : Nat} {xs : Nat → Int32} (hz0 : z0 = s.heap.size) (hX : va_X b L xs s s.heap) (hbl : b < s.heap.size) (hbA : ¬ z0 ≤ b)  (M : q_C) (H : Heap) (locs : List Loc) (ls : Array Slot) (hf : fL_law_b830 b L xs Z M = some (r, Z', M')) (hH : q_Hh D cA z0 s Z M H locs) (hl : lv_has ls 4 [])  : W p l e room_1 s m #[Value.ref b] below meth c H locs (zS Z - zS Zi) (zC Z - zC Zi) (lw_Z below #[Value.ref b] s) (F0 m 830 ls []) := by
  have hx := E.1
  have hb := E.2.1
  have hown := E.2.2.2.1
  have hT := E.2.2.2.2.2.2.2.1
  have hcc := q_bd hi (moL_law_b830 _ _ _ _ _ _ _ _ hf) hbd
  unfold fL_law_b830 at hf
  refine lv_iconst (v := 1) hx hb dL_law_830 (by decide) ?_
  cases hf
  exact q_lawret E hH hz0 hbd dL_law_831
def fL_law_b15 (b L : Nat) (xs : Nat → Int32) (v1 : Nat) (s0 : Nat) (Z : q_Z) (M : q_C) : Option (Int32 × q_Z × q_C) :=
  Option.bind (q_it (fun x => fL_law_L18 b L xs (some v1) (some s0) x.1 x.2.1 x.2.2) q_FU ((0 : Int32), Z, M)) fun r_384 =>
  q_nm r_384.1 fun Z_386 =>
  q_nm r_384.2 fun M_387 =>
  fL_law_b830 b L xs Z_386 M_387
theorem moL_law_b15 (b L : Nat) (xs : Nat → Int32) (v1 : Nat) (s0 : Nat) (Z : q_Z) (M : q_C) (r : Int32) (Z' : q_Z) (M' : q_C) (hf : fL_law_b15 b L xs v1 s0 Z M = some (r, Z', M')) : q_le Z Z' := by
  unfold fL_law_b15 at hf
  obtain ⟨r_384, hr_385, hf⟩ := q_biE hf
  refine (moL_law_l18 _ _ _ _ _ _ _ _ hr_385).tr ?_
  replace hf := q_nmE (x := _) rfl hf
  replace hf := q_nmE (x := _) rfl hf
  exact moL_law_b830 _ _ _ _ _ _ _ _ hf
set_option maxHeartbeats 4000000 in
set_option maxRecDepth 100000 in
theorem bL_law_15 (E : q_E p s m meth c cL_law 4 RL ret meth.name D cA) (hR : 7 ≤ room_1.frames ∧ 181 ≤ room_1.locals) (Zi : q_Z) {Z : q_Z} (hi : q_le Zi Z) {r : Int32} {Z' : q_Z} {M' : q_C} (hbd : zS Z' - zS Zi ≤ 600000 ∧ zC Z' - zC Zi ≤ 7302250) {b L : Nat} {xs : Nat → Int32} (hz0 : z0 = s.heap.size) (hX : va_X b L xs s s.heap) (hbl : b < s.heap.size) (hbA : ¬ z0 ≤ b) (v1 : Nat) (s0 : Nat) (M : q_C) (H : Heap) (locs : List Loc) (ls : Array Slot) (hf : fL_law_b15 b L xs v1 s0 Z M = some (r, Z', M')) (hH : q_Hh D cA z0 s Z M H locs) (hl : lv_has ls 4 [(0, .ref b), (1, .ref v1)])  : W p l e room_1 s m #[Value.ref b] below meth c H locs (zS Z - zS Zi) (zC Z - zC Zi) (lw_Z below #[Value.ref b] s) (F0 m 15 ls [.ref s0]) := by
  have hx := E.1
  have hb := E.2.1
  have hown := E.2.2.2.1
  have hT := E.2.2.2.2.2.2.2.1
  have hcc := q_bd hi (moL_law_b15 _ _ _ _ _ _ _ _ _ _ hf) hbd
  unfold fL_law_b15 at hf
  refine lv_astore_n (lv' := [(2, .ref s0), (0, .ref b), (1, .ref v1)]) hx hb dL_law_15 rfl hl (by decide) rfl (fun ls hl => ?_)
  refine lv_iconst (v := 0) hx hb dL_law_16 (by decide) ?_
  refine lv_istore_n (lv' := [(3, .int (0 : Int32)), (2, .ref s0), (0, .ref b), (1, .ref v1)]) hx hb dL_law_17 rfl hl (by decide) rfl (fun ls hl => ?_)
  obtain ⟨r_384, hr_385, hf⟩ := q_biE hf
  refine lL_law_18 E hR Zi hz0 hX hbl hbA (some v1) (some s0) q_FU (0 : Int32) Z M _ _ _ r_384 hr_385 ?_ hH (lv_sub hl [2, 3, 1, 0] rfl) hi (fun Z_386 M_387 H locs ls he_388 hH hl hi => ?_)
  · refine q_bd (hi.tr (moL_law_l18 _ _ _ _ _ _ _ _ hr_385)) ?_ hbd
    replace hf := q_nmE (x := _) rfl hf
    replace hf := q_nmE (x := _) rfl hf
    exact moL_law_b830 _ _ _ _ _ _ _ _ hf
  · subst he_388
    replace hf := q_nmE (x := Z_386) rfl hf
    replace hf := q_nmE (x := M_387) rfl hf
    exact bL_law_830 E hR Zi hi hbd hz0 hX hbl hbA M_387 _ _ _  hf hH (lv_sub hl [] rfl)
def fL_law_b11 (b L : Nat) (xs : Nat → Int32) (v1 : Nat) (s0 : Nat) (Z : q_Z) (M : q_C) : Option (Int32 × q_Z × q_C) :=
  q_b2 (fX7_init s0 Z M) fun Z_8 M_7 =>
  fL_law_b15 b L xs v1 s0 Z_8 M_7
theorem moL_law_b11 (b L : Nat) (xs : Nat → Int32) (v1 : Nat) (s0 : Nat) (Z : q_Z) (M : q_C) (r : Int32) (Z' : q_Z) (M' : q_C) (hf : fL_law_b11 b L xs v1 s0 Z M = some (r, Z', M')) : q_le Z Z' := by
  unfold fL_law_b11 at hf
  obtain ⟨Z_8, M_7, hw_6, hf⟩ := q_b2E hf
  have hq := moX7_init _ _ _ _ _ hw_6
  exact hq.tr (moL_law_b15 _ _ _ _ _ _ _ _ _ _ hf)
set_option maxHeartbeats 4000000 in
set_option maxRecDepth 100000 in
theorem bL_law_11 (E : q_E p s m meth c cL_law 4 RL ret meth.name D cA) (hR : 7 ≤ room_1.frames ∧ 181 ≤ room_1.locals) (Zi : q_Z) {Z : q_Z} (hi : q_le Zi Z) {r : Int32} {Z' : q_Z} {M' : q_C} (hbd : zS Z' - zS Zi ≤ 600000 ∧ zC Z' - zC Zi ≤ 7302250) {b L : Nat} {xs : Nat → Int32} (hz0 : z0 = s.heap.size) (hX : va_X b L xs s s.heap) (hbl : b < s.heap.size) (hbA : ¬ z0 ≤ b) (v1 : Nat) (s0 : Nat) (M : q_C) (H : Heap) (locs : List Loc) (ls : Array Slot) (hf : fL_law_b11 b L xs v1 s0 Z M = some (r, Z', M')) (hH : q_Hh D cA z0 s Z M H locs) (hl : lv_has ls 4 [(0, .ref b), (1, .ref v1)])  : W p l e room_1 s m #[Value.ref b] below meth c H locs (zS Z - zS Zi) (zC Z - zC Zi) (lw_Z below #[Value.ref b] s) (F0 m 11 ls [.ref s0]) := by
  have hx := E.1
  have hb := E.2.1
  have hown := E.2.2.2.1
  have hT := E.2.2.2.2.2.2.2.1
  have hcc := q_bd hi (moL_law_b11 _ _ _ _ _ _ _ _ _ _ hf) hbd
  unfold fL_law_b11 at hf
  refine lv_dup hx hb dL_law_11 rfl ?_
  obtain ⟨Z_8, M_7, hw_6, hf⟩ := q_b2E hf
  have hq1 := (moX7_init _ _ _ _ _ hw_6)
  have hq := moL_law_b15 _ _ _ _ _ _ _ _ _ _ hf
  refine q_cI (As := []) (rest := [.ref s0]) (st1 := [.ref s0]) E hH (tX7_init l D cA z0 s0 Z M Z_8 M_7 hw_6) mw_X7_init mi_X7_init rfl kM_L_12 (q_bs hi hq1 hq hbd) (q_be1 hi hq1) (q_be2 hi hq1) rfl hl.1 rfl rfl (Nat.le_of_ble_eq_true rfl) ⟨Nat.le_trans (by decide) hR.1, Nat.le_trans (by decide) hR.2⟩ dL_law_12 (fun H locs hH => ?_)
  exact bL_law_15 E hR Zi (hi.tr hq1) hbd hz0 hX hbl hbA v1 s0 M_7 _ _ _  hf hH (lv_sub hl [0, 1] rfl)
def fL_law_b7 (b L : Nat) (xs : Nat → Int32) (s0 : Nat) (Z : q_Z) (M : q_C) : Option (Int32 × q_Z × q_C) :=
  q_gd (zK Z (zS Z) == 0) <|
  fL_law_b11 b L xs s0 (zS Z) (zN Z 17 30) (cN M (zS Z))
theorem moL_law_b7 (b L : Nat) (xs : Nat → Int32) (s0 : Nat) (Z : q_Z) (M : q_C) (r : Int32) (Z' : q_Z) (M' : q_C) (hf : fL_law_b7 b L xs s0 Z M = some (r, Z', M')) : q_le Z Z' := by
  unfold fL_law_b7 at hf
  obtain ⟨-, hf⟩ := q_gdE hf
  exact (q_le.nw (kd := 17) (n := 30)).tr (moL_law_b11 _ _ _ _ _ _ _ _ _ _ hf)
set_option maxHeartbeats 4000000 in
set_option maxRecDepth 100000 in
theorem bL_law_7 (E : q_E p s m meth c cL_law 4 RL ret meth.name D cA) (hR : 7 ≤ room_1.frames ∧ 181 ≤ room_1.locals) (Zi : q_Z) {Z : q_Z} (hi : q_le Zi Z) {r : Int32} {Z' : q_Z} {M' : q_C} (hbd : zS Z' - zS Zi ≤ 600000 ∧ zC Z' - zC Zi ≤ 7302250) {b L : Nat} {xs : Nat → Int32} (hz0 : z0 = s.heap.size) (hX : va_X b L xs s s.heap) (hbl : b < s.heap.size) (hbA : ¬ z0 ≤ b) (s0 : Nat) (M : q_C) (H : Heap) (locs : List Loc) (ls : Array Slot) (hf : fL_law_b7 b L xs s0 Z M = some (r, Z', M')) (hH : q_Hh D cA z0 s Z M H locs) (hl : lv_has ls 4 [(0, .ref b)])  : W p l e room_1 s m #[Value.ref b] below meth c H locs (zS Z - zS Zi) (zC Z - zC Zi) (lw_Z below #[Value.ref b] s) (F0 m 7 ls [.ref s0]) := by
  have hx := E.1
  have hb := E.2.1
  have hown := E.2.2.2.1
  have hT := E.2.2.2.2.2.2.2.1
  have hcc := q_bd hi (moL_law_b7 _ _ _ _ _ _ _ _ _ hf) hbd
  unfold fL_law_b7 at hf
  refine lv_astore_n (lv' := [(1, .ref s0), (0, .ref b)]) hx hb dL_law_7 rfl hl (by decide) rfl (fun ls hl => ?_)
  obtain ⟨hz_5, hf⟩ := q_gdE hf
  have hz_5 := q_keq hz_5
  have hq : q_le (zN Z 17 30) Z' := moL_law_b11 _ _ _ _ _ _ _ _ _ _ hf
  refine q_new E hH (ci := 7) rfl kC_L_10 kI_X7 kN_X7 hz_5 (q_nwb (kd := 17) (n := 30) hi hq hbd) dL_law_8 (fun H hH => ?_)
  refine q_wc (c1 := zS (zN Z 17 30) - zS Zi) (s1 := zC (zN Z 17 30) - zC Zi) (q_bn1 hi) (q_bn2 hi) ?_
  exact bL_law_11 E hR Zi (hi.tr q_le.nw) hbd hz0 hX hbl hbA s0 (zS Z) (cN M (zS Z)) _ _ _  hf hH (lv_sub hl [1, 0] rfl)
def fL_law_b3 (b L : Nat) (xs : Nat → Int32) (s0 : Nat) (Z : q_Z) (M : q_C) : Option (Int32 × q_Z × q_C) :=
  q_b2 (fX6_init s0 Z M) fun Z_4 M_3 =>
  fL_law_b7 b L xs s0 Z_4 M_3
theorem moL_law_b3 (b L : Nat) (xs : Nat → Int32) (s0 : Nat) (Z : q_Z) (M : q_C) (r : Int32) (Z' : q_Z) (M' : q_C) (hf : fL_law_b3 b L xs s0 Z M = some (r, Z', M')) : q_le Z Z' := by
  unfold fL_law_b3 at hf
  obtain ⟨Z_4, M_3, hw_2, hf⟩ := q_b2E hf
  have hq := moX6_init _ _ _ _ _ hw_2
  exact hq.tr (moL_law_b7 _ _ _ _ _ _ _ _ _ hf)
set_option maxHeartbeats 4000000 in
set_option maxRecDepth 100000 in
theorem bL_law_3 (E : q_E p s m meth c cL_law 4 RL ret meth.name D cA) (hR : 7 ≤ room_1.frames ∧ 181 ≤ room_1.locals) (Zi : q_Z) {Z : q_Z} (hi : q_le Zi Z) {r : Int32} {Z' : q_Z} {M' : q_C} (hbd : zS Z' - zS Zi ≤ 600000 ∧ zC Z' - zC Zi ≤ 7302250) {b L : Nat} {xs : Nat → Int32} (hz0 : z0 = s.heap.size) (hX : va_X b L xs s s.heap) (hbl : b < s.heap.size) (hbA : ¬ z0 ≤ b) (s0 : Nat) (M : q_C) (H : Heap) (locs : List Loc) (ls : Array Slot) (hf : fL_law_b3 b L xs s0 Z M = some (r, Z', M')) (hH : q_Hh D cA z0 s Z M H locs) (hl : lv_has ls 4 [(0, .ref b)])  : W p l e room_1 s m #[Value.ref b] below meth c H locs (zS Z - zS Zi) (zC Z - zC Zi) (lw_Z below #[Value.ref b] s) (F0 m 3 ls [.ref s0]) := by
  have hx := E.1
  have hb := E.2.1
  have hown := E.2.2.2.1
  have hT := E.2.2.2.2.2.2.2.1
  have hcc := q_bd hi (moL_law_b3 _ _ _ _ _ _ _ _ _ hf) hbd
  unfold fL_law_b3 at hf
  refine lv_dup hx hb dL_law_3 rfl ?_
  obtain ⟨Z_4, M_3, hw_2, hf⟩ := q_b2E hf
  have hq1 := (moX6_init _ _ _ _ _ hw_2)
  have hq := moL_law_b7 _ _ _ _ _ _ _ _ _ hf
  refine q_cI (As := []) (rest := [.ref s0]) (st1 := [.ref s0]) E hH (tX6_init l D cA z0 s0 Z M Z_4 M_3 hw_2) mw_X6_init mi_X6_init rfl kM_L_9 (q_bs hi hq1 hq hbd) (q_be1 hi hq1) (q_be2 hi hq1) rfl hl.1 rfl rfl (Nat.le_of_ble_eq_true rfl) ⟨Nat.le_trans (by decide) hR.1, Nat.le_trans (by decide) hR.2⟩ dL_law_4 (fun H locs hH => ?_)
  exact bL_law_7 E hR Zi (hi.tr hq1) hbd hz0 hX hbl hbA s0 M_3 _ _ _  hf hH (lv_sub hl [0] rfl)
def fL_law (b L : Nat) (xs : Nat → Int32) (Z : q_Z) (M : q_C) : Option (Int32 × q_Z × q_C) :=
  q_gd (zK Z (zS Z) == 0) <|
  fL_law_b3 b L xs (zS Z) (zN Z 16 15) (cN M (zS Z))
theorem moL_law (b L : Nat) (xs : Nat → Int32) (Z : q_Z) (M : q_C) (r : Int32) (Z' : q_Z) (M' : q_C) (hf : fL_law b L xs Z M = some (r, Z', M')) : q_le Z Z' := by
  unfold fL_law at hf
  obtain ⟨-, hf⟩ := q_gdE hf
  exact (q_le.nw (kd := 16) (n := 15)).tr (moL_law_b3 _ _ _ _ _ _ _ _ _ hf)
set_option maxHeartbeats 4000000 in
set_option maxRecDepth 100000 in
theorem bL_law_0 (E : q_E p s m meth c cL_law 4 RL ret meth.name D cA) (hR : 7 ≤ room_1.frames ∧ 181 ≤ room_1.locals) (Zi : q_Z) {Z : q_Z} (hi : q_le Zi Z) {r : Int32} {Z' : q_Z} {M' : q_C} (hbd : zS Z' - zS Zi ≤ 600000 ∧ zC Z' - zC Zi ≤ 7302250) {b L : Nat} {xs : Nat → Int32} (hz0 : z0 = s.heap.size) (hX : va_X b L xs s s.heap) (hbl : b < s.heap.size) (hbA : ¬ z0 ≤ b)  (M : q_C) (H : Heap) (locs : List Loc) (ls : Array Slot) (hf : fL_law b L xs Z M = some (r, Z', M')) (hH : q_Hh D cA z0 s Z M H locs) (hl : lv_has ls 4 [(0, .ref b)])  : W p l e room_1 s m #[Value.ref b] below meth c H locs (zS Z - zS Zi) (zC Z - zC Zi) (lw_Z below #[Value.ref b] s) (F0 m 0 ls []) := by
  have hx := E.1
  have hb := E.2.1
  have hown := E.2.2.2.1
  have hT := E.2.2.2.2.2.2.2.1
  have hcc := q_bd hi (moL_law _ _ _ _ _ _ _ _ hf) hbd
  unfold fL_law at hf
  obtain ⟨hz_1, hf⟩ := q_gdE hf
  have hz_1 := q_keq hz_1
  have hq : q_le (zN Z 16 15) Z' := moL_law_b3 _ _ _ _ _ _ _ _ _ hf
  refine q_new E hH (ci := 6) rfl kC_L_7 kI_X6 kN_X6 hz_1 (q_nwb (kd := 16) (n := 15) hi hq hbd) dL_law_0 (fun H hH => ?_)
  refine q_wc (c1 := zS (zN Z 16 15) - zS Zi) (s1 := zC (zN Z 16 15) - zC Zi) (q_bn1 hi) (q_bn2 hi) ?_
  exact bL_law_3 E hR Zi (hi.tr q_le.nw) hbd hz0 hX hbl hbA (zS Z) (cN M (zS Z)) _ _ _  hf hH (lv_sub hl [0] rfl)
end Q30
