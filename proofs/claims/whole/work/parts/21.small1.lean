section Q211
variable {p : Program} {l : Launch} {e : Env} {R : Room} {s : State} {m : MethodId} {args : Array Value} {below : List Frame} {meth : Method} {c : Code} {D : va_G} {cA : Nat → ClassId} {z0 : Nat}
def fJ9_abs_067f4_b12 (s0 : Int64) : Option (Int64) :=
  some s0
set_option maxHeartbeats 4000000 in
set_option maxRecDepth 100000 in
theorem bJ9_abs_067f4_12 {cells slots : Nat} (E : q_E p s m meth c cJ9_abs_067f4 2 RJ9 (some .long) "abs" D cA) (hR : 0 ≤ R.frames ∧ 0 ≤ R.locals) (hcc : cells ≤ R.cells ∧ slots ≤ R.slots) (Z : q_Z) (M : q_C) (s0 : Int64) (H : Heap) (locs : List Loc) (ls : Array Slot) (r : Int64) (hf : fJ9_abs_067f4_b12 s0 = some r) (hH : q_Hh D cA z0 s Z M H locs) (hl : lv_has ls 2 [])  : W p l e R s m args below meth c H locs cells slots (MQ below (q_Q D cA z0 (some (.long r)) Z M) args s cells slots (fun q => z0 ≤ q)) (F0 m 12 ls [.long s0]) := by
  have hx := E.1
  have hb := E.2.1
  have hown := E.2.2.2.1
  have hT := E.2.2.2.2.2.2.2.1
  unfold fJ9_abs_067f4_b12 at hf
  cases hf
  exact q_lret E hH dJ9_abs_067f4_12
def fJ9_abs_067f4 (v0 : Int64) : Option (Int64) :=
  if (0 : Int64) ≤ v0 then
    fJ9_abs_067f4_b12 v0
  else
    fJ9_abs_067f4_b12 (-v0)
set_option maxHeartbeats 4000000 in
set_option maxRecDepth 100000 in
theorem bJ9_abs_067f4_0 {cells slots : Nat} (E : q_E p s m meth c cJ9_abs_067f4 2 RJ9 (some .long) "abs" D cA) (hR : 0 ≤ R.frames ∧ 0 ≤ R.locals) (hcc : cells ≤ R.cells ∧ slots ≤ R.slots) (Z : q_Z) (M : q_C) (v0 : Int64) (H : Heap) (locs : List Loc) (ls : Array Slot) (r : Int64) (hf : fJ9_abs_067f4 v0 = some r) (hH : q_Hh D cA z0 s Z M H locs) (hl : lv_has ls 2 [(0, .long v0)])  : W p l e R s m args below meth c H locs cells slots (MQ below (q_Q D cA z0 (some (.long r)) Z M) args s cells slots (fun q => z0 ≤ q)) (F0 m 0 ls []) := by
  have hx := E.1
  have hb := E.2.1
  have hown := E.2.2.2.1
  have hT := E.2.2.2.2.2.2.2.1
  unfold fJ9_abs_067f4 at hf
  refine lv_lload_n hx hb dJ9_abs_067f4_0 rfl (lv_at hl 0 rfl) ?_
  refine lv_lconst (v := 0) hx hb dJ9_abs_067f4_1 (by decide) ?_
  refine q_lcmp_ge (pc1 := 3) (tgt := 11) hx hb dJ9_abs_067f4_2 rfl dJ9_abs_067f4_3 (by decide) (fun cc_1 => ?_) (fun cc_1 => ?_)
  · replace hf := q_ifT cc_1 hf
    clear cc_1
    refine lv_lload_n hx hb dJ9_abs_067f4_11 rfl (lv_at hl 0 rfl) ?_
    exact bJ9_abs_067f4_12 E hR hcc Z M v0 _ _ _ _ hf hH (lv_sub hl [] rfl)
  · replace hf := q_ifF cc_1 hf
    clear cc_1
    refine lv_lload_n hx hb dJ9_abs_067f4_6 rfl (lv_at hl 0 rfl) ?_
    refine lv_lneg hx hb dJ9_abs_067f4_7 ?_
    refine lv_goto (tgt := 12) hx hb dJ9_abs_067f4_8 (by decide) ?_
    exact bJ9_abs_067f4_12 E hR hcc Z M (-v0) _ _ _ _ hf hH (lv_sub hl [] rfl)
set_option maxRecDepth 100000 in
theorem tJ9_abs_067f4 (l : Launch) (D : va_G) (cA : Nat → ClassId) (z0 : Nat) (Z : q_Z) (M : q_C) (v0 : Int64) (r : Int64) (hf : fJ9_abs_067f4 v0 = some r) : q_Ct l D cA z0 yJ9_abs_067f4 cJ9_abs_067f4 2 (some .long) 0 0 [.long v0] Z M (some (.long r)) Z M 0 0 := by
  (refine q_start (by decide +kernel) (Nat.le_of_ble_eq_true rfl) (fun p e s m below meth c H ls E hH hl => ?_); exact bJ9_abs_067f4_0 E ⟨Nat.le_refl _, Nat.le_refl _⟩ ⟨Nat.le_refl _, Nat.le_refl _⟩ Z M _ H [] ls r hf hH hl)
def fJ9_floorMod_7cf53_b18 (v2 : Int32) : Option (Int32) :=
  some v2
set_option maxHeartbeats 4000000 in
set_option maxRecDepth 100000 in
theorem bJ9_floorMod_7cf53_18 {cells slots : Nat} (E : q_E p s m meth c cJ9_floorMod_7cf53 3 RJ9 (some .int) "floorMod" D cA) (hR : 0 ≤ R.frames ∧ 0 ≤ R.locals) (hcc : cells ≤ R.cells ∧ slots ≤ R.slots) (Z : q_Z) (M : q_C) (v2 : Int32) (H : Heap) (locs : List Loc) (ls : Array Slot) (r : Int32) (hf : fJ9_floorMod_7cf53_b18 v2 = some r) (hH : q_Hh D cA z0 s Z M H locs) (hl : lv_has ls 3 [(2, .int v2)])  : W p l e R s m args below meth c H locs cells slots (MQ below (q_Q D cA z0 (some (.int r)) Z M) args s cells slots (fun q => z0 ≤ q)) (F0 m 18 ls []) := by
  have hx := E.1
  have hb := E.2.1
  have hown := E.2.2.2.1
  have hT := E.2.2.2.2.2.2.2.1
  unfold fJ9_floorMod_7cf53_b18 at hf
  refine lv_iload_n hx hb dJ9_floorMod_7cf53_18 rfl (lv_at hl 0 rfl) ?_
  cases hf
  exact q_iret E hH dJ9_floorMod_7cf53_19
def fJ9_floorMod_7cf53 (v0 : Int32) (v1 : Int32) : Option (Int32) :=
  q_gd (!(decide (v1 = 0))) <|
  q_nm (v0 - v0 / v1 * v1) fun v2_2 =>
  if 0 ≤ v0 ^^^ v1 then
    fJ9_floorMod_7cf53_b18 v2_2
  else
    if v2_2 = 0 then
      fJ9_floorMod_7cf53_b18 v2_2
    else
      some (v2_2 + v1)
set_option maxHeartbeats 4000000 in
set_option maxRecDepth 100000 in
theorem bJ9_floorMod_7cf53_0 {cells slots : Nat} (E : q_E p s m meth c cJ9_floorMod_7cf53 3 RJ9 (some .int) "floorMod" D cA) (hR : 0 ≤ R.frames ∧ 0 ≤ R.locals) (hcc : cells ≤ R.cells ∧ slots ≤ R.slots) (Z : q_Z) (M : q_C) (v0 : Int32) (v1 : Int32) (H : Heap) (locs : List Loc) (ls : Array Slot) (r : Int32) (hf : fJ9_floorMod_7cf53 v0 v1 = some r) (hH : q_Hh D cA z0 s Z M H locs) (hl : lv_has ls 3 [(0, .int v0), (1, .int v1)])  : W p l e R s m args below meth c H locs cells slots (MQ below (q_Q D cA z0 (some (.int r)) Z M) args s cells slots (fun q => z0 ≤ q)) (F0 m 0 ls []) := by
  have hx := E.1
  have hb := E.2.1
  have hown := E.2.2.2.1
  have hT := E.2.2.2.2.2.2.2.1
  unfold fJ9_floorMod_7cf53 at hf
  refine lv_iload_n hx hb dJ9_floorMod_7cf53_0 rfl (lv_at hl 0 rfl) ?_
  refine lv_iload_n hx hb dJ9_floorMod_7cf53_1 rfl (lv_at hl 1 rfl) ?_
  obtain ⟨hz_1, hf⟩ := q_gdE hf
  refine lv_irem hx hb dJ9_floorMod_7cf53_2 (by simpa using hz_1) ?_
  refine lv_topi (fun v2_2 hn_3 => ?_)
  replace hf := q_nmE hn_3 hf
  clear hn_3
  refine lv_istore_n (lv' := [(2, .int v2_2), (0, .int v0), (1, .int v1)]) hx hb dJ9_floorMod_7cf53_3 rfl hl (by decide) rfl (fun ls hl => ?_)
  refine lv_iload_n hx hb dJ9_floorMod_7cf53_4 rfl (lv_at hl 1 rfl) ?_
  refine lv_iload_n hx hb dJ9_floorMod_7cf53_5 rfl (lv_at hl 2 rfl) ?_
  refine lv_ixor hx hb dJ9_floorMod_7cf53_6 ?_
  refine lv_if_ge (tgt := 18) hx hb dJ9_floorMod_7cf53_7 (by decide) (fun cc_5 => ?_) (fun cc_5 => ?_)
  · replace hf := q_ifT cc_5 hf
    clear cc_5
    exact bJ9_floorMod_7cf53_18 E hR hcc Z M v2_2 _ _ _ _ hf hH (lv_sub hl [0] rfl)
  · replace hf := q_ifF cc_5 hf
    clear cc_5
    refine lv_iload_n hx hb dJ9_floorMod_7cf53_10 rfl (lv_at hl 0 rfl) ?_
    refine lv_if_eq (tgt := 18) hx hb dJ9_floorMod_7cf53_11 (by decide) (fun cc_4 => ?_) (fun cc_4 => ?_)
    · replace hf := q_ifT cc_4 hf
      clear cc_4
      exact bJ9_floorMod_7cf53_18 E hR hcc Z M v2_2 _ _ _ _ hf hH (lv_sub hl [0] rfl)
    · replace hf := q_ifF cc_4 hf
      clear cc_4
      refine lv_iload_n hx hb dJ9_floorMod_7cf53_14 rfl (lv_at hl 0 rfl) ?_
      refine lv_iload_n hx hb dJ9_floorMod_7cf53_15 rfl (lv_at hl 2 rfl) ?_
      refine lv_iadd hx hb dJ9_floorMod_7cf53_16 ?_
      cases hf
      exact q_iret E hH dJ9_floorMod_7cf53_17
set_option maxRecDepth 100000 in
theorem tJ9_floorMod_7cf53 (l : Launch) (D : va_G) (cA : Nat → ClassId) (z0 : Nat) (Z : q_Z) (M : q_C) (v0 : Int32) (v1 : Int32) (r : Int32) (hf : fJ9_floorMod_7cf53 v0 v1 = some r) : q_Ct l D cA z0 yJ9_floorMod_7cf53 cJ9_floorMod_7cf53 3 (some .int) 0 0 [.int v0, .int v1] Z M (some (.int r)) Z M 0 0 := by
  (refine q_start (by decide +kernel) (Nat.le_of_ble_eq_true rfl) (fun p e s m below meth c H ls E hH hl => ?_); exact bJ9_floorMod_7cf53_0 E ⟨Nat.le_refl _, Nat.le_refl _⟩ ⟨Nat.le_refl _, Nat.le_refl _⟩ Z M _ _ H [] ls r hf hH hl)
def fJ9_min_f86c9_b11 (s0 : Int64) : Option (Int64) :=
  some s0
set_option maxHeartbeats 4000000 in
set_option maxRecDepth 100000 in
theorem bJ9_min_f86c9_11 {cells slots : Nat} (E : q_E p s m meth c cJ9_min_f86c9 4 RJ9 (some .long) "min" D cA) (hR : 0 ≤ R.frames ∧ 0 ≤ R.locals) (hcc : cells ≤ R.cells ∧ slots ≤ R.slots) (Z : q_Z) (M : q_C) (s0 : Int64) (H : Heap) (locs : List Loc) (ls : Array Slot) (r : Int64) (hf : fJ9_min_f86c9_b11 s0 = some r) (hH : q_Hh D cA z0 s Z M H locs) (hl : lv_has ls 4 [])  : W p l e R s m args below meth c H locs cells slots (MQ below (q_Q D cA z0 (some (.long r)) Z M) args s cells slots (fun q => z0 ≤ q)) (F0 m 11 ls [.long s0]) := by
  have hx := E.1
  have hb := E.2.1
  have hown := E.2.2.2.1
  have hT := E.2.2.2.2.2.2.2.1
  unfold fJ9_min_f86c9_b11 at hf
  cases hf
  exact q_lret E hH dJ9_min_f86c9_11
def fJ9_min_f86c9 (v0 : Int64) (v2 : Int64) : Option (Int64) :=
  if v2 < v0 then
    fJ9_min_f86c9_b11 v2
  else
    fJ9_min_f86c9_b11 v0
set_option maxHeartbeats 4000000 in
set_option maxRecDepth 100000 in
theorem bJ9_min_f86c9_0 {cells slots : Nat} (E : q_E p s m meth c cJ9_min_f86c9 4 RJ9 (some .long) "min" D cA) (hR : 0 ≤ R.frames ∧ 0 ≤ R.locals) (hcc : cells ≤ R.cells ∧ slots ≤ R.slots) (Z : q_Z) (M : q_C) (v0 : Int64) (v2 : Int64) (H : Heap) (locs : List Loc) (ls : Array Slot) (r : Int64) (hf : fJ9_min_f86c9 v0 v2 = some r) (hH : q_Hh D cA z0 s Z M H locs) (hl : lv_has ls 4 [(0, .long v0), (2, .long v2)])  : W p l e R s m args below meth c H locs cells slots (MQ below (q_Q D cA z0 (some (.long r)) Z M) args s cells slots (fun q => z0 ≤ q)) (F0 m 0 ls []) := by
  have hx := E.1
  have hb := E.2.1
  have hown := E.2.2.2.1
  have hT := E.2.2.2.2.2.2.2.1
  unfold fJ9_min_f86c9 at hf
  refine lv_lload_n hx hb dJ9_min_f86c9_0 rfl (lv_at hl 0 rfl) ?_
  refine lv_lload_n hx hb dJ9_min_f86c9_1 rfl (lv_at hl 1 rfl) ?_
  refine q_lcmp_gt (pc1 := 3) (tgt := 10) hx hb dJ9_min_f86c9_2 rfl dJ9_min_f86c9_3 (by decide) (fun cc_1 => ?_) (fun cc_1 => ?_)
  · replace hf := q_ifT cc_1 hf
    clear cc_1
    refine lv_lload_n hx hb dJ9_min_f86c9_10 rfl (lv_at hl 1 rfl) ?_
    exact bJ9_min_f86c9_11 E hR hcc Z M v2 _ _ _ _ hf hH (lv_sub hl [] rfl)
  · replace hf := q_ifF cc_1 hf
    clear cc_1
    refine lv_lload_n hx hb dJ9_min_f86c9_6 rfl (lv_at hl 0 rfl) ?_
    refine lv_goto (tgt := 11) hx hb dJ9_min_f86c9_7 (by decide) ?_
    exact bJ9_min_f86c9_11 E hR hcc Z M v0 _ _ _ _ hf hH (lv_sub hl [] rfl)
set_option maxRecDepth 100000 in
theorem tJ9_min_f86c9 (l : Launch) (D : va_G) (cA : Nat → ClassId) (z0 : Nat) (Z : q_Z) (M : q_C) (v0 : Int64) (v2 : Int64) (r : Int64) (hf : fJ9_min_f86c9 v0 v2 = some r) : q_Ct l D cA z0 yJ9_min_f86c9 cJ9_min_f86c9 4 (some .long) 0 0 [.long v0, .long v2] Z M (some (.long r)) Z M 0 0 := by
  (refine q_start (by decide +kernel) (Nat.le_of_ble_eq_true rfl) (fun p e s m below meth c H ls E hH hl => ?_); exact bJ9_min_f86c9_0 E ⟨Nat.le_refl _, Nat.le_refl _⟩ ⟨Nat.le_refl _, Nat.le_refl _⟩ Z M _ _ H [] ls r hf hH hl)
def fX0_init (h : Nat) (Z : q_Z) (M : q_C) : Option (q_C) :=
  q_gd (zK Z h == 10) <|
  q_nm (sJ M h 0 (0 : Int64)) fun M_2 =>
  q_nm (sJ M_2 h 1 (0 : Int64)) fun M_3 =>
  q_nm (sJ M_3 h 2 (0 : Int64)) fun M_4 =>
  q_nm (sJ M_4 h 3 (0 : Int64)) fun M_5 =>
  q_nm (sI M_5 h 4 (0 : Int32)) fun M_6 =>
  q_gd (decide ((0 : Int32) = 0) || decide ((0 : Int32) = 1)) <|
  q_nm (sI M_6 h 5 (0 : Int32)) fun M_8 =>
  some M_8
set_option maxHeartbeats 4000000 in
set_option maxRecDepth 100000 in
theorem bX0_init_0 {cells slots : Nat} (E : q_E p s m meth c cX0_init 1 RX0 none "<init>" D cA) (hR : 1 ≤ R.frames ∧ 20 ≤ R.locals) (hcc : cells ≤ R.cells ∧ slots ≤ R.slots) (h : Nat) (Z : q_Z) (M : q_C) (H : Heap) (locs : List Loc) (ls : Array Slot) (M' : q_C) (hf : fX0_init h Z M = some M') (hH : q_Hh D cA z0 s Z M H locs) (hl : lv_has ls 1 [(0, .ref h)])  : W p l e R s m args below meth c H locs cells slots (MQ below (q_Q D cA z0 none Z M') args s cells slots (fun q => z0 ≤ q)) (F0 m 0 ls []) := by
  have hx := E.1
  have hb := E.2.1
  have hown := E.2.2.2.1
  have hT := E.2.2.2.2.2.2.2.1
  unfold fX0_init at hf
  refine lv_aload_n hx hb dX0_init_0 rfl (lv_at hl 0 rfl) ?_
  refine q_oinit E kM_X0_3 kO_in kO_cd hl.1 (Nat.le_trans (by decide) hR.1) (Nat.le_trans (by decide) hR.2) dX0_init_1 ?_
  refine lv_aload_n hx hb dX0_init_4 rfl (lv_at hl 0 rfl) ?_
  refine lv_lconst (v := 0) hx hb dX0_init_5 (by decide) ?_
  obtain ⟨hk_1, hf⟩ := q_gdE hf
  have hk_1 := q_keq hk_1
  refine q_putJ E hH (ci := 0) rfl 0 (by decide) kF_X0_9 rfl (fun _ _ _ => rfl) (x := (0 : Int64)) hk_1 rfl rfl dX0_init_6 hf (fun M_2 H locs hH hf => ?_)
  refine lv_aload_n hx hb dX0_init_9 rfl (lv_at hl 0 rfl) ?_
  refine lv_lconst (v := 0) hx hb dX0_init_10 (by decide) ?_
  refine q_putJ E hH (ci := 0) rfl 1 (by decide) kF_X0_15 rfl (fun _ _ _ => rfl) (x := (0 : Int64)) hk_1 rfl rfl dX0_init_11 hf (fun M_3 H locs hH hf => ?_)
  refine lv_aload_n hx hb dX0_init_14 rfl (lv_at hl 0 rfl) ?_
  refine lv_lconst (v := 0) hx hb dX0_init_15 (by decide) ?_
  refine q_putJ E hH (ci := 0) rfl 2 (by decide) kF_X0_18 rfl (fun _ _ _ => rfl) (x := (0 : Int64)) hk_1 rfl rfl dX0_init_16 hf (fun M_4 H locs hH hf => ?_)
  refine lv_aload_n hx hb dX0_init_19 rfl (lv_at hl 0 rfl) ?_
  refine lv_lconst (v := 0) hx hb dX0_init_20 (by decide) ?_
  refine q_putJ E hH (ci := 0) rfl 3 (by decide) kF_X0_21 rfl (fun _ _ _ => rfl) (x := (0 : Int64)) hk_1 rfl rfl dX0_init_21 hf (fun M_5 H locs hH hf => ?_)
  refine lv_aload_n hx hb dX0_init_24 rfl (lv_at hl 0 rfl) ?_
  refine lv_iconst (v := 0) hx hb dX0_init_25 (by decide) ?_
  refine q_putI E hH (ci := 0) rfl 4 (by decide) kF_X0_24 rfl (fun _ _ _ => rfl) (x := (0 : Int32)) hk_1 rfl rfl dX0_init_26 hf (fun M_6 H locs hH hf => ?_)
  refine lv_aload_n hx hb dX0_init_29 rfl (lv_at hl 0 rfl) ?_
  refine lv_iconst (v := 0) hx hb dX0_init_30 (by decide) ?_
  obtain ⟨hz_7, hf⟩ := q_gdE hf
  refine q_putI E hH (ci := 0) rfl 5 (by decide) kF_X0_28 rfl (fun _ _ _ => rfl) (x := (0 : Int32)) hk_1 (q_zb hz_7).1 (q_zb hz_7).2 dX0_init_31 hf (fun M_8 H locs hH hf => ?_)
  cases hf
  exact q_vret E hH dX0_init_34
set_option maxRecDepth 100000 in
theorem tX0_init (l : Launch) (D : va_G) (cA : Nat → ClassId) (z0 : Nat) (h : Nat) (Z : q_Z) (M : q_C) (M' : q_C) (hf : fX0_init h Z M = some M') : q_Ct l D cA z0 yX0_init cX0_init 1 none 1 20 [.ref h] Z M none Z M' 0 0 := by
  (refine q_start (plainFor_of_name (by decide)) (Nat.le_of_ble_eq_true rfl) (fun p e s m below meth c H ls E hH hl => ?_); exact bX0_init_0 E ⟨Nat.le_refl _, Nat.le_refl _⟩ ⟨Nat.le_refl _, Nat.le_refl _⟩ h Z M H [] ls M' hf hH hl)
def fX5_init (h : Nat) (Z : q_Z) (M : q_C) : Option (q_C) :=
  q_gd (zK Z h == 15) <|
  q_nm (sI M h 0 (0 : Int32)) fun M_2 =>
  q_nm (sI M_2 h 1 (0 : Int32)) fun M_3 =>
  q_nm (sI M_3 h 2 (0 : Int32)) fun M_4 =>
  q_nm (sI M_4 h 3 (0 : Int32)) fun M_5 =>
  q_nm (sI M_5 h 4 (0 : Int32)) fun M_6 =>
  q_nm (sI M_6 h 5 (0 : Int32)) fun M_7 =>
  q_nm (sI M_7 h 6 (0 : Int32)) fun M_8 =>
  q_gd (decide ((0 : Int32) = 0) || decide ((0 : Int32) = 1)) <|
  q_nm (sI M_8 h 7 (0 : Int32)) fun M_10 =>
  q_nm (sI M_10 h 8 (0 : Int32)) fun M_11 =>
  q_nm (sI M_11 h 9 (-1 : Int32)) fun M_12 =>
  q_nm (sR M_12 h 10 none) fun M_13 =>
  some M_13
set_option maxHeartbeats 4000000 in
set_option maxRecDepth 100000 in
theorem bX5_init_0 {cells slots : Nat} (E : q_E p s m meth c cX5_init 1 RX5 none "<init>" D cA) (hR : 1 ≤ R.frames ∧ 20 ≤ R.locals) (hcc : cells ≤ R.cells ∧ slots ≤ R.slots) (h : Nat) (Z : q_Z) (M : q_C) (H : Heap) (locs : List Loc) (ls : Array Slot) (M' : q_C) (hf : fX5_init h Z M = some M') (hH : q_Hh D cA z0 s Z M H locs) (hl : lv_has ls 1 [(0, .ref h)])  : W p l e R s m args below meth c H locs cells slots (MQ below (q_Q D cA z0 none Z M') args s cells slots (fun q => z0 ≤ q)) (F0 m 0 ls []) := by
  have hx := E.1
  have hb := E.2.1
  have hown := E.2.2.2.1
  have hT := E.2.2.2.2.2.2.2.1
  unfold fX5_init at hf
  refine lv_aload_n hx hb dX5_init_0 rfl (lv_at hl 0 rfl) ?_
  refine q_oinit E kM_X5_3 kO_in kO_cd hl.1 (Nat.le_trans (by decide) hR.1) (Nat.le_trans (by decide) hR.2) dX5_init_1 ?_
  refine lv_aload_n hx hb dX5_init_4 rfl (lv_at hl 0 rfl) ?_
  refine lv_iconst (v := 0) hx hb dX5_init_5 (by decide) ?_
  obtain ⟨hk_1, hf⟩ := q_gdE hf
  have hk_1 := q_keq hk_1
  refine q_putI E hH (ci := 5) rfl 0 (by decide) kF_X5_9 rfl (fun _ _ _ => rfl) (x := (0 : Int32)) hk_1 rfl rfl dX5_init_6 hf (fun M_2 H locs hH hf => ?_)
  refine lv_aload_n hx hb dX5_init_9 rfl (lv_at hl 0 rfl) ?_
  refine lv_iconst (v := 0) hx hb dX5_init_10 (by decide) ?_
  refine q_putI E hH (ci := 5) rfl 1 (by decide) kF_X5_15 rfl (fun _ _ _ => rfl) (x := (0 : Int32)) hk_1 rfl rfl dX5_init_11 hf (fun M_3 H locs hH hf => ?_)
  refine lv_aload_n hx hb dX5_init_14 rfl (lv_at hl 0 rfl) ?_
  refine lv_iconst (v := 0) hx hb dX5_init_15 (by decide) ?_
  refine q_putI E hH (ci := 5) rfl 2 (by decide) kF_X5_18 rfl (fun _ _ _ => rfl) (x := (0 : Int32)) hk_1 rfl rfl dX5_init_16 hf (fun M_4 H locs hH hf => ?_)
  refine lv_aload_n hx hb dX5_init_19 rfl (lv_at hl 0 rfl) ?_
  refine lv_iconst (v := 0) hx hb dX5_init_20 (by decide) ?_
  refine q_putI E hH (ci := 5) rfl 3 (by decide) kF_X5_21 rfl (fun _ _ _ => rfl) (x := (0 : Int32)) hk_1 rfl rfl dX5_init_21 hf (fun M_5 H locs hH hf => ?_)
  refine lv_aload_n hx hb dX5_init_24 rfl (lv_at hl 0 rfl) ?_
  refine lv_iconst (v := 0) hx hb dX5_init_25 (by decide) ?_
  refine q_putI E hH (ci := 5) rfl 4 (by decide) kF_X5_24 rfl (fun _ _ _ => rfl) (x := (0 : Int32)) hk_1 rfl rfl dX5_init_26 hf (fun M_6 H locs hH hf => ?_)
  refine lv_aload_n hx hb dX5_init_29 rfl (lv_at hl 0 rfl) ?_
  refine lv_iconst (v := 0) hx hb dX5_init_30 (by decide) ?_
  refine q_putI E hH (ci := 5) rfl 5 (by decide) kF_X5_27 rfl (fun _ _ _ => rfl) (x := (0 : Int32)) hk_1 rfl rfl dX5_init_31 hf (fun M_7 H locs hH hf => ?_)
  refine lv_aload_n hx hb dX5_init_34 rfl (lv_at hl 0 rfl) ?_
  refine lv_iconst (v := 0) hx hb dX5_init_35 (by decide) ?_
  refine q_putI E hH (ci := 5) rfl 6 (by decide) kF_X5_30 rfl (fun _ _ _ => rfl) (x := (0 : Int32)) hk_1 rfl rfl dX5_init_36 hf (fun M_8 H locs hH hf => ?_)
  refine lv_aload_n hx hb dX5_init_39 rfl (lv_at hl 0 rfl) ?_
  refine lv_iconst (v := 0) hx hb dX5_init_40 (by decide) ?_
  obtain ⟨hz_9, hf⟩ := q_gdE hf
  refine q_putI E hH (ci := 5) rfl 7 (by decide) kF_X5_33 rfl (fun _ _ _ => rfl) (x := (0 : Int32)) hk_1 (q_zb hz_9).1 (q_zb hz_9).2 dX5_init_41 hf (fun M_10 H locs hH hf => ?_)
  refine lv_aload_n hx hb dX5_init_44 rfl (lv_at hl 0 rfl) ?_
  refine lv_iconst (v := 0) hx hb dX5_init_45 (by decide) ?_
  refine q_putI E hH (ci := 5) rfl 8 (by decide) kF_X5_37 rfl (fun _ _ _ => rfl) (x := (0 : Int32)) hk_1 rfl rfl dX5_init_46 hf (fun M_11 H locs hH hf => ?_)
  refine lv_aload_n hx hb dX5_init_49 rfl (lv_at hl 0 rfl) ?_
  refine lv_iconst (v := -1) hx hb dX5_init_50 (by decide) ?_
  refine q_putI E hH (ci := 5) rfl 9 (by decide) kF_X5_40 rfl (fun _ _ _ => rfl) (x := (-1 : Int32)) hk_1 rfl rfl dX5_init_51 hf (fun M_12 H locs hH hf => ?_)
  refine lv_aload_n hx hb dX5_init_54 rfl (lv_at hl 0 rfl) ?_
  refine lv_null hx hb dX5_init_55 ?_
  refine q_putR E hH (ci := 5) rfl 10 (by decide) kF_X5_43 rfl (fun _ _ _ => rfl) (x := none) hk_1 (q_rff _ "" _ (Or.inr ⟨_, rfl⟩)).1 (q_rff _ "" _ (Or.inr ⟨_, rfl⟩)).2 dX5_init_56 hf (fun M_13 H locs hH hf => ?_)
  cases hf
  exact q_vret E hH dX5_init_59
set_option maxRecDepth 100000 in
theorem tX5_init (l : Launch) (D : va_G) (cA : Nat → ClassId) (z0 : Nat) (h : Nat) (Z : q_Z) (M : q_C) (M' : q_C) (hf : fX5_init h Z M = some M') : q_Ct l D cA z0 yX5_init cX5_init 1 none 1 20 [.ref h] Z M none Z M' 0 0 := by
  (refine q_start (plainFor_of_name (by decide)) (Nat.le_of_ble_eq_true rfl) (fun p e s m below meth c H ls E hH hl => ?_); exact bX5_init_0 E ⟨Nat.le_refl _, Nat.le_refl _⟩ ⟨Nat.le_refl _, Nat.le_refl _⟩ h Z M H [] ls M' hf hH hl)
def fX2_init (h : Nat) (Z : q_Z) (M : q_C) : Option (q_C) :=
  q_gd (zK Z h == 12) <|
  q_nm (sI M h 0 (0 : Int32)) fun M_2 =>
  q_nm (sI M_2 h 1 (0 : Int32)) fun M_3 =>
  q_nm (sI M_3 h 2 (0 : Int32)) fun M_4 =>
  q_nm (sI M_4 h 3 (0 : Int32)) fun M_5 =>
  q_nm (sI M_5 h 4 (0 : Int32)) fun M_6 =>
  some M_6
set_option maxHeartbeats 4000000 in
set_option maxRecDepth 100000 in
theorem bX2_init_0 {cells slots : Nat} (E : q_E p s m meth c cX2_init 1 RX2 none "<init>" D cA) (hR : 1 ≤ R.frames ∧ 20 ≤ R.locals) (hcc : cells ≤ R.cells ∧ slots ≤ R.slots) (h : Nat) (Z : q_Z) (M : q_C) (H : Heap) (locs : List Loc) (ls : Array Slot) (M' : q_C) (hf : fX2_init h Z M = some M') (hH : q_Hh D cA z0 s Z M H locs) (hl : lv_has ls 1 [(0, .ref h)])  : W p l e R s m args below meth c H locs cells slots (MQ below (q_Q D cA z0 none Z M') args s cells slots (fun q => z0 ≤ q)) (F0 m 0 ls []) := by
  have hx := E.1
  have hb := E.2.1
  have hown := E.2.2.2.1
  have hT := E.2.2.2.2.2.2.2.1
  unfold fX2_init at hf
  refine lv_aload_n hx hb dX2_init_0 rfl (lv_at hl 0 rfl) ?_
  refine q_oinit E kM_X2_3 kO_in kO_cd hl.1 (Nat.le_trans (by decide) hR.1) (Nat.le_trans (by decide) hR.2) dX2_init_1 ?_
  refine lv_aload_n hx hb dX2_init_4 rfl (lv_at hl 0 rfl) ?_
  refine lv_iconst (v := 0) hx hb dX2_init_5 (by decide) ?_
  obtain ⟨hk_1, hf⟩ := q_gdE hf
  have hk_1 := q_keq hk_1
  refine q_putI E hH (ci := 2) rfl 0 (by decide) kF_X2_9 rfl (fun _ _ _ => rfl) (x := (0 : Int32)) hk_1 rfl rfl dX2_init_6 hf (fun M_2 H locs hH hf => ?_)
  refine lv_aload_n hx hb dX2_init_9 rfl (lv_at hl 0 rfl) ?_
  refine lv_iconst (v := 0) hx hb dX2_init_10 (by decide) ?_
  refine q_putI E hH (ci := 2) rfl 1 (by decide) kF_X2_15 rfl (fun _ _ _ => rfl) (x := (0 : Int32)) hk_1 rfl rfl dX2_init_11 hf (fun M_3 H locs hH hf => ?_)
  refine lv_aload_n hx hb dX2_init_14 rfl (lv_at hl 0 rfl) ?_
  refine lv_iconst (v := 0) hx hb dX2_init_15 (by decide) ?_
  refine q_putI E hH (ci := 2) rfl 2 (by decide) kF_X2_18 rfl (fun _ _ _ => rfl) (x := (0 : Int32)) hk_1 rfl rfl dX2_init_16 hf (fun M_4 H locs hH hf => ?_)
  refine lv_aload_n hx hb dX2_init_19 rfl (lv_at hl 0 rfl) ?_
  refine lv_iconst (v := 0) hx hb dX2_init_20 (by decide) ?_
  refine q_putI E hH (ci := 2) rfl 3 (by decide) kF_X2_21 rfl (fun _ _ _ => rfl) (x := (0 : Int32)) hk_1 rfl rfl dX2_init_21 hf (fun M_5 H locs hH hf => ?_)
  refine lv_aload_n hx hb dX2_init_24 rfl (lv_at hl 0 rfl) ?_
  refine lv_iconst (v := 0) hx hb dX2_init_25 (by decide) ?_
  refine q_putI E hH (ci := 2) rfl 4 (by decide) kF_X2_24 rfl (fun _ _ _ => rfl) (x := (0 : Int32)) hk_1 rfl rfl dX2_init_26 hf (fun M_6 H locs hH hf => ?_)
  cases hf
  exact q_vret E hH dX2_init_29
set_option maxRecDepth 100000 in
theorem tX2_init (l : Launch) (D : va_G) (cA : Nat → ClassId) (z0 : Nat) (h : Nat) (Z : q_Z) (M : q_C) (M' : q_C) (hf : fX2_init h Z M = some M') : q_Ct l D cA z0 yX2_init cX2_init 1 none 1 20 [.ref h] Z M none Z M' 0 0 := by
  (refine q_start (plainFor_of_name (by decide)) (Nat.le_of_ble_eq_true rfl) (fun p e s m below meth c H ls E hH hl => ?_); exact bX2_init_0 E ⟨Nat.le_refl _, Nat.le_refl _⟩ ⟨Nat.le_refl _, Nat.le_refl _⟩ h Z M H [] ls M' hf hH hl)
def fX4_grow_b16 (h : Nat) (Z : q_Z) (M : q_C) : Option (Int32 × q_C) :=
  some ((-1 : Int32), M)
set_option maxHeartbeats 4000000 in
set_option maxRecDepth 100000 in
theorem bX4_grow_16 {cells slots : Nat} (E : q_E p s m meth c cX4_grow 3 RX4 (some .int) "grow" D cA) (hR : 0 ≤ R.frames ∧ 0 ≤ R.locals) (hcc : cells ≤ R.cells ∧ slots ≤ R.slots) (h : Nat) (Z : q_Z) (M : q_C) (H : Heap) (locs : List Loc) (ls : Array Slot) (r : Int32) (M' : q_C) (hf : fX4_grow_b16 h Z M = some (r, M')) (hH : q_Hh D cA z0 s Z M H locs) (hl : lv_has ls 3 [])  : W p l e R s m args below meth c H locs cells slots (MQ below (q_Q D cA z0 (some (.int r)) Z M') args s cells slots (fun q => z0 ≤ q)) (F0 m 16 ls []) := by
  have hx := E.1
  have hb := E.2.1
  have hown := E.2.2.2.1
  have hT := E.2.2.2.2.2.2.2.1
  unfold fX4_grow_b16 at hf
  refine lv_iconst (v := -1) hx hb dX4_grow_16 (by decide) ?_
  cases hf
  exact q_iret E hH dX4_grow_17
def fX4_grow (h : Nat) (v1 : Int32) (v2 : Int32) (Z : q_Z) (M : q_C) : Option (Int32 × q_C) :=
  q_gd (zK Z h == 14) <|
  if gI M h 2 < 0 then
    fX4_grow_b16 h Z M
  else
    if gI M h 2 < (40 : Int32) then
      Option.bind (gR M h 0) fun a_2 =>
      q_gd (q_ok Z a_2 1 (gI M h 2)) <|
      q_nm (sI M a_2 (gI M h 2).toNatClampNeg v1) fun M_5 =>
      Option.bind (gR M_5 h 1) fun a_6 =>
      q_gd (q_ok Z a_6 1 (gI M_5 h 2)) <|
      q_nm (sI M_5 a_6 (gI M_5 h 2).toNatClampNeg v2) fun M_9 =>
      q_nm (sI M_9 h 2 ((gI M_9 h 2) + (1 : Int32))) fun M_10 =>
      some ((gI M_10 h 2), M_10)
    else
      fX4_grow_b16 h Z M
set_option maxHeartbeats 4000000 in
set_option maxRecDepth 100000 in
theorem bX4_grow_0 {cells slots : Nat} (E : q_E p s m meth c cX4_grow 3 RX4 (some .int) "grow" D cA) (hR : 0 ≤ R.frames ∧ 0 ≤ R.locals) (hcc : cells ≤ R.cells ∧ slots ≤ R.slots) (h : Nat) (v1 : Int32) (v2 : Int32) (Z : q_Z) (M : q_C) (H : Heap) (locs : List Loc) (ls : Array Slot) (r : Int32) (M' : q_C) (hf : fX4_grow h v1 v2 Z M = some (r, M')) (hH : q_Hh D cA z0 s Z M H locs) (hl : lv_has ls 3 [(0, .ref h), (1, .int v1), (2, .int v2)])  : W p l e R s m args below meth c H locs cells slots (MQ below (q_Q D cA z0 (some (.int r)) Z M') args s cells slots (fun q => z0 ≤ q)) (F0 m 0 ls []) := by
  have hx := E.1
  have hb := E.2.1
  have hown := E.2.2.2.1
  have hT := E.2.2.2.2.2.2.2.1
  unfold fX4_grow at hf
  refine lv_aload_n hx hb dX4_grow_0 rfl (lv_at hl 0 rfl) ?_
  obtain ⟨hk_1, hf⟩ := q_gdE hf
  have hk_1 := q_keq hk_1
  refine q_getI E hH (ci := 4) rfl 2 (by decide) kF_X4_18 (fun _ _ _ => rfl) hk_1 dX4_grow_1 ?_
  refine lv_if_lt (tgt := 16) hx hb dX4_grow_4 (by decide) (fun cc_12 => ?_) (fun cc_12 => ?_)
  · replace hf := q_ifT cc_12 hf
    clear cc_12
    exact bX4_grow_16 E hR hcc h Z M _ _ _ _ _ hf hH (lv_sub hl [] rfl)
  · replace hf := q_ifF cc_12 hf
    clear cc_12
    refine lv_aload_n hx hb dX4_grow_7 rfl (lv_at hl 0 rfl) ?_
    refine q_getI E hH (ci := 4) rfl 2 (by decide) kF_X4_18 (fun _ _ _ => rfl) hk_1 dX4_grow_8 ?_
    refine lv_bipush (v := 40) hx hb dX4_grow_11 (by decide) ?_
    refine lv_icmp_lt (tgt := 18) hx hb dX4_grow_13 (by decide) (fun cc_11 => ?_) (fun cc_11 => ?_)
    · replace hf := q_ifT cc_11 hf
      clear cc_11
      refine lv_aload_n hx hb dX4_grow_18 rfl (lv_at hl 0 rfl) ?_
      refine q_getR E hH (ci := 4) rfl 0 (by decide) kF_X4_9 (fun _ _ _ => rfl) hk_1 dX4_grow_19 ?_
      obtain ⟨a_2, he_3, hf⟩ := q_biE hf
      rw [he_3]
      refine lv_aload_n hx hb dX4_grow_22 rfl (lv_at hl 0 rfl) ?_
      refine q_getI E hH (ci := 4) rfl 2 (by decide) kF_X4_18 (fun _ _ _ => rfl) hk_1 dX4_grow_23 ?_
      refine lv_iload_n hx hb dX4_grow_26 rfl (lv_at hl 1 rfl) ?_
      obtain ⟨hz_4, hf⟩ := q_gdE hf
      refine q_iastore E hH hz_4 dX4_grow_27 hf (fun M_5 H locs hH hf => ?_)
      refine lv_aload_n hx hb dX4_grow_28 rfl (lv_at hl 0 rfl) ?_
      refine q_getR E hH (ci := 4) rfl 1 (by decide) kF_X4_15 (fun _ _ _ => rfl) hk_1 dX4_grow_29 ?_
      obtain ⟨a_6, he_7, hf⟩ := q_biE hf
      rw [he_7]
      refine lv_aload_n hx hb dX4_grow_32 rfl (lv_at hl 0 rfl) ?_
      refine q_getI E hH (ci := 4) rfl 2 (by decide) kF_X4_18 (fun _ _ _ => rfl) hk_1 dX4_grow_33 ?_
      refine lv_iload_n hx hb dX4_grow_36 rfl (lv_at hl 2 rfl) ?_
      obtain ⟨hz_8, hf⟩ := q_gdE hf
      refine q_iastore E hH hz_8 dX4_grow_37 hf (fun M_9 H locs hH hf => ?_)
      refine lv_aload_n hx hb dX4_grow_38 rfl (lv_at hl 0 rfl) ?_
      refine lv_dup hx hb dX4_grow_39 rfl ?_
      refine q_getI E hH (ci := 4) rfl 2 (by decide) kF_X4_18 (fun _ _ _ => rfl) hk_1 dX4_grow_40 ?_
      refine lv_iconst (v := 1) hx hb dX4_grow_43 (by decide) ?_
      refine lv_iadd hx hb dX4_grow_44 ?_
      refine q_putI E hH (ci := 4) rfl 2 (by decide) kF_X4_18 rfl (fun _ _ _ => rfl) (x := (gI M_9 h 2) + (1 : Int32)) hk_1 rfl rfl dX4_grow_45 hf (fun M_10 H locs hH hf => ?_)
      refine lv_aload_n hx hb dX4_grow_48 rfl (lv_at hl 0 rfl) ?_
      refine q_getI E hH (ci := 4) rfl 2 (by decide) kF_X4_18 (fun _ _ _ => rfl) hk_1 dX4_grow_49 ?_
      cases hf
      exact q_iret E hH dX4_grow_52
    · replace hf := q_ifF cc_11 hf
      clear cc_11
      exact bX4_grow_16 E hR hcc h Z M _ _ _ _ _ hf hH (lv_sub hl [] rfl)
set_option maxRecDepth 100000 in
theorem tX4_grow (l : Launch) (D : va_G) (cA : Nat → ClassId) (z0 : Nat) (h : Nat) (v1 : Int32) (v2 : Int32) (Z : q_Z) (M : q_C) (r : Int32) (M' : q_C) (hf : fX4_grow h v1 v2 Z M = some (r, M')) : q_Ct l D cA z0 yX4_grow cX4_grow 3 (some .int) 0 0 [.ref h, .int v1, .int v2] Z M (some (.int r)) Z M' 0 0 := by
  (refine q_start (plainFor_of_name (by decide)) (Nat.le_of_ble_eq_true rfl) (fun p e s m below meth c H ls E hH hl => ?_); exact bX4_grow_0 E ⟨Nat.le_refl _, Nat.le_refl _⟩ ⟨Nat.le_refl _, Nat.le_refl _⟩ h _ _ Z M H [] ls r M' hf hH hl)
def fX4_become (h : Nat) (v1 : Option Nat) (Z : q_Z) (M : q_C) : Option (q_C) :=
  Option.bind v1 fun a_1 =>
  q_gd (zK Z a_1 == 14) <|
  Option.bind (gR M a_1 0) fun a_4 =>
  q_gd (zK Z h == 14) <|
  Option.bind (gR M h 0) fun a_7 =>
  q_gd (q_cp Z a_4 a_7 (0 : Int32) (0 : Int32) (40 : Int32)) <|
  q_nm (cP M a_4 a_7 (0 : Int32).toNatClampNeg (0 : Int32).toNatClampNeg (40 : Int32).toNatClampNeg) fun M_10 =>
  Option.bind (gR M_10 a_1 1) fun a_11 =>
  Option.bind (gR M_10 h 1) fun a_13 =>
  q_gd (q_cp Z a_11 a_13 (0 : Int32) (0 : Int32) (40 : Int32)) <|
  q_nm (cP M_10 a_11 a_13 (0 : Int32).toNatClampNeg (0 : Int32).toNatClampNeg (40 : Int32).toNatClampNeg) fun M_16 =>
  q_nm (sI M_16 h 2 (gI M_16 a_1 2)) fun M_17 =>
  some M_17
set_option maxHeartbeats 4000000 in
set_option maxRecDepth 100000 in
theorem bX4_become_0 {cells slots : Nat} (E : q_E p s m meth c cX4_become 2 RX4 none "become" D cA) (hR : 1 ≤ R.frames ∧ 40 ≤ R.locals) (hcc : cells ≤ R.cells ∧ slots ≤ R.slots) (h : Nat) (v1 : Option Nat) (Z : q_Z) (M : q_C) (H : Heap) (locs : List Loc) (ls : Array Slot) (M' : q_C) (hf : fX4_become h v1 Z M = some M') (hH : q_Hh D cA z0 s Z M H locs) (hl : lv_has ls 2 [(0, .ref h), (1, va_rf v1)])  : W p l e R s m args below meth c H locs cells slots (MQ below (q_Q D cA z0 none Z M') args s cells slots (fun q => z0 ≤ q)) (F0 m 0 ls []) := by
  have hx := E.1
  have hb := E.2.1
  have hown := E.2.2.2.1
  have hT := E.2.2.2.2.2.2.2.1
  unfold fX4_become at hf
  refine q_aload_n hx hb dX4_become_0 rfl (lv_at hl 1 rfl) ?_
  obtain ⟨a_1, he_2, hf⟩ := q_biE hf
  subst he_2
  obtain ⟨hk_3, hf⟩ := q_gdE hf
  have hk_3 := q_keq hk_3
  refine q_getR E hH (ci := 4) rfl 0 (by decide) kF_X4_9 (fun _ _ _ => rfl) hk_3 dX4_become_1 ?_
  obtain ⟨a_4, he_5, hf⟩ := q_biE hf
  rw [he_5]
  refine lv_iconst (v := 0) hx hb dX4_become_4 (by decide) ?_
  refine lv_aload_n hx hb dX4_become_5 rfl (lv_at hl 0 rfl) ?_
  obtain ⟨hk_6, hf⟩ := q_gdE hf
  have hk_6 := q_keq hk_6
  refine q_getR E hH (ci := 4) rfl 0 (by decide) kF_X4_9 (fun _ _ _ => rfl) hk_6 dX4_become_6 ?_
  obtain ⟨a_7, he_8, hf⟩ := q_biE hf
  rw [he_8]
  refine lv_iconst (v := 0) hx hb dX4_become_9 (by decide) ?_
  refine lv_bipush (v := 40) hx hb dX4_become_10 (by decide) ?_
  obtain ⟨hz_9, hf⟩ := q_gdE hf
  refine q_acopy E hH kM_X4_28 kO_nat kO_sta kO_sys hz_9 hl.1 (Nat.le_trans (by decide) hR.1) (Nat.le_trans (by decide) hR.2) dX4_become_12 hf (fun M_10 H locs hH hf => ?_)
  refine lv_aload_n hx hb dX4_become_15 rfl (lv_at hl 1 rfl) ?_
  refine q_getR E hH (ci := 4) rfl 1 (by decide) kF_X4_15 (fun _ _ _ => rfl) hk_3 dX4_become_16 ?_
  obtain ⟨a_11, he_12, hf⟩ := q_biE hf
  rw [he_12]
  refine lv_iconst (v := 0) hx hb dX4_become_19 (by decide) ?_
  refine lv_aload_n hx hb dX4_become_20 rfl (lv_at hl 0 rfl) ?_
  refine q_getR E hH (ci := 4) rfl 1 (by decide) kF_X4_15 (fun _ _ _ => rfl) hk_6 dX4_become_21 ?_
  obtain ⟨a_13, he_14, hf⟩ := q_biE hf
  rw [he_14]
  refine lv_iconst (v := 0) hx hb dX4_become_24 (by decide) ?_
  refine lv_bipush (v := 40) hx hb dX4_become_25 (by decide) ?_
  obtain ⟨hz_15, hf⟩ := q_gdE hf
  refine q_acopy E hH kM_X4_28 kO_nat kO_sta kO_sys hz_15 hl.1 (Nat.le_trans (by decide) hR.1) (Nat.le_trans (by decide) hR.2) dX4_become_27 hf (fun M_16 H locs hH hf => ?_)
  refine lv_aload_n hx hb dX4_become_30 rfl (lv_at hl 0 rfl) ?_
  refine lv_aload_n hx hb dX4_become_31 rfl (lv_at hl 1 rfl) ?_
  refine q_getI E hH (ci := 4) rfl 2 (by decide) kF_X4_18 (fun _ _ _ => rfl) hk_3 dX4_become_32 ?_
  refine q_putI E hH (ci := 4) rfl 2 (by decide) kF_X4_18 rfl (fun _ _ _ => rfl) (x := gI M_16 a_1 2) hk_6 rfl rfl dX4_become_35 hf (fun M_17 H locs hH hf => ?_)
  cases hf
  exact q_vret E hH dX4_become_38
set_option maxRecDepth 100000 in
theorem tX4_become (l : Launch) (D : va_G) (cA : Nat → ClassId) (z0 : Nat) (h : Nat) (v1 : Option Nat) (Z : q_Z) (M : q_C) (M' : q_C) (hf : fX4_become h v1 Z M = some M') : q_Ct l D cA z0 yX4_become cX4_become 2 none 1 40 [.ref h, va_rf v1] Z M none Z M' 0 0 := by
  cases v1 <;>
  (refine q_start (plainFor_of_name (by decide)) (Nat.le_of_ble_eq_true rfl) (fun p e s m below meth c H ls E hH hl => ?_); exact bX4_become_0 E ⟨Nat.le_refl _, Nat.le_refl _⟩ ⟨Nat.le_refl _, Nat.le_refl _⟩ h _ Z M H [] ls M' hf hH hl)
def fX3_become (h : Nat) (v1 : Option Nat) (Z : q_Z) (M : q_C) : Option (q_C) :=
  q_gd (zK Z h == 13) <|
  Option.bind (gR M h 0) fun a_2 =>
  Option.bind v1 fun a_4 =>
  q_gd (zK Z a_4 == 13) <|
  Option.bind (gR M a_4 0) fun a_7 =>
  q_gd (zK Z a_2 == 14) <|
  Option.bind (fX4_become a_2 (some a_7) Z M) fun M_11 =>
  Option.bind (gR M_11 h 1) fun a_12 =>
  Option.bind (gR M_11 a_4 1) fun a_14 =>
  q_gd (zK Z a_12 == 14) <|
  Option.bind (fX4_become a_12 (some a_14) Z M_11) fun M_18 =>
  q_nm (sJ M_18 h 2 (gJ M_18 a_4 2)) fun M_19 =>
  q_nm (sJ M_19 h 3 (gJ M_19 a_4 3)) fun M_20 =>
  some M_20
set_option maxHeartbeats 4000000 in
set_option maxRecDepth 100000 in
theorem bX3_become_0 {cells slots : Nat} (E : q_E p s m meth c cX3_become 2 RX3 none "become" D cA) (hR : 2 ≤ R.frames ∧ 61 ≤ R.locals) (hcc : cells ≤ R.cells ∧ slots ≤ R.slots) (h : Nat) (v1 : Option Nat) (Z : q_Z) (M : q_C) (H : Heap) (locs : List Loc) (ls : Array Slot) (M' : q_C) (hf : fX3_become h v1 Z M = some M') (hH : q_Hh D cA z0 s Z M H locs) (hl : lv_has ls 2 [(0, .ref h), (1, va_rf v1)])  : W p l e R s m args below meth c H locs cells slots (MQ below (q_Q D cA z0 none Z M') args s cells slots (fun q => z0 ≤ q)) (F0 m 0 ls []) := by
  have hx := E.1
  have hb := E.2.1
  have hown := E.2.2.2.1
  have hT := E.2.2.2.2.2.2.2.1
  unfold fX3_become at hf
  refine lv_aload_n hx hb dX3_become_0 rfl (lv_at hl 0 rfl) ?_
  obtain ⟨hk_1, hf⟩ := q_gdE hf
  have hk_1 := q_keq hk_1
  refine q_getR E hH (ci := 3) rfl 0 (by decide) kF_X3_10 (fun _ _ _ => rfl) hk_1 dX3_become_1 ?_
  obtain ⟨a_2, he_3, hf⟩ := q_biE hf
  rw [he_3]
  refine q_aload_n hx hb dX3_become_4 rfl (lv_at hl 1 rfl) ?_
  obtain ⟨a_4, he_5, hf⟩ := q_biE hf
  subst he_5
  obtain ⟨hk_6, hf⟩ := q_gdE hf
  have hk_6 := q_keq hk_6
  refine q_getR E hH (ci := 3) rfl 0 (by decide) kF_X3_10 (fun _ _ _ => rfl) hk_6 dX3_become_5 ?_
  obtain ⟨a_7, he_8, hf⟩ := q_biE hf
  rw [he_8]
  obtain ⟨hk_9, hf⟩ := q_gdE hf
  have hk_9 := q_keq hk_9
  obtain ⟨M_11, hw_10, hf⟩ := q_biE hf
  refine q_cV (As := [.ref a_7]) (rest := []) (st1 := []) E hH (tX4_become l D cA z0 a_2 (some a_7) Z M M_11 hw_10) mw_X4_become mi_X4_become (ci := 4) rfl ms_X4_become kM_X3_28 hk_9 hcc rfl rfl rfl hl.1 rfl rfl (Nat.le_of_ble_eq_true rfl) ⟨Nat.le_trans (by decide) hR.1, Nat.le_trans (by decide) hR.2⟩ dX3_become_8 (fun H locs hH => ?_)
  refine lv_aload_n hx hb dX3_become_11 rfl (lv_at hl 0 rfl) ?_
  refine q_getR E hH (ci := 3) rfl 1 (by decide) kF_X3_16 (fun _ _ _ => rfl) hk_1 dX3_become_12 ?_
  obtain ⟨a_12, he_13, hf⟩ := q_biE hf
  rw [he_13]
  refine lv_aload_n hx hb dX3_become_15 rfl (lv_at hl 1 rfl) ?_
  refine q_getR E hH (ci := 3) rfl 1 (by decide) kF_X3_16 (fun _ _ _ => rfl) hk_6 dX3_become_16 ?_
  obtain ⟨a_14, he_15, hf⟩ := q_biE hf
  rw [he_15]
  obtain ⟨hk_16, hf⟩ := q_gdE hf
  have hk_16 := q_keq hk_16
  obtain ⟨M_18, hw_17, hf⟩ := q_biE hf
  refine q_cV (As := [.ref a_14]) (rest := []) (st1 := []) E hH (tX4_become l D cA z0 a_12 (some a_14) Z M_11 M_18 hw_17) mw_X4_become mi_X4_become (ci := 4) rfl ms_X4_become kM_X3_28 hk_16 hcc rfl rfl rfl hl.1 rfl rfl (Nat.le_of_ble_eq_true rfl) ⟨Nat.le_trans (by decide) hR.1, Nat.le_trans (by decide) hR.2⟩ dX3_become_19 (fun H locs hH => ?_)
  refine lv_aload_n hx hb dX3_become_22 rfl (lv_at hl 0 rfl) ?_
  refine lv_aload_n hx hb dX3_become_23 rfl (lv_at hl 1 rfl) ?_
  refine q_getJ E hH (ci := 3) rfl 2 (by decide) kF_X3_21 (fun _ _ _ => rfl) hk_6 dX3_become_24 ?_
  refine q_putJ E hH (ci := 3) rfl 2 (by decide) kF_X3_21 rfl (fun _ _ _ => rfl) (x := gJ M_18 a_4 2) hk_1 rfl rfl dX3_become_27 hf (fun M_19 H locs hH hf => ?_)
  refine lv_aload_n hx hb dX3_become_30 rfl (lv_at hl 0 rfl) ?_
  refine lv_aload_n hx hb dX3_become_31 rfl (lv_at hl 1 rfl) ?_
  refine q_getJ E hH (ci := 3) rfl 3 (by decide) kF_X3_25 (fun _ _ _ => rfl) hk_6 dX3_become_32 ?_
  refine q_putJ E hH (ci := 3) rfl 3 (by decide) kF_X3_25 rfl (fun _ _ _ => rfl) (x := gJ M_19 a_4 3) hk_1 rfl rfl dX3_become_35 hf (fun M_20 H locs hH hf => ?_)
  cases hf
  exact q_vret E hH dX3_become_38
set_option maxRecDepth 100000 in
theorem tX3_become (l : Launch) (D : va_G) (cA : Nat → ClassId) (z0 : Nat) (h : Nat) (v1 : Option Nat) (Z : q_Z) (M : q_C) (M' : q_C) (hf : fX3_become h v1 Z M = some M') : q_Ct l D cA z0 yX3_become cX3_become 2 none 2 61 [.ref h, va_rf v1] Z M none Z M' 0 0 := by
  cases v1 <;>
  (refine q_start (plainFor_of_name (by decide)) (Nat.le_of_ble_eq_true rfl) (fun p e s m below meth c H ls E hH hl => ?_); exact bX3_become_0 E ⟨Nat.le_refl _, Nat.le_refl _⟩ ⟨Nat.le_refl _, Nat.le_refl _⟩ h _ Z M H [] ls M' hf hH hl)
def fX4_xAt_b34 (h : Nat) (s0 : Int32) (Z : q_Z) (M : q_C) : Option (Int32) :=
  some s0
set_option maxHeartbeats 4000000 in
set_option maxRecDepth 100000 in
theorem bX4_xAt_34 {cells slots : Nat} (E : q_E p s m meth c cX4_xAt 2 RX4 (some .int) "xAt" D cA) (hR : 1 ≤ R.frames ∧ 22 ≤ R.locals) (hcc : cells ≤ R.cells ∧ slots ≤ R.slots) (h : Nat) (s0 : Int32) (Z : q_Z) (M : q_C) (H : Heap) (locs : List Loc) (ls : Array Slot) (r : Int32) (hf : fX4_xAt_b34 h s0 Z M = some r) (hH : q_Hh D cA z0 s Z M H locs) (hl : lv_has ls 2 [])  : W p l e R s m args below meth c H locs cells slots (MQ below (q_Q D cA z0 (some (.int r)) Z M) args s cells slots (fun q => z0 ≤ q)) (F0 m 34 ls [.int s0]) := by
  have hx := E.1
  have hb := E.2.1
  have hown := E.2.2.2.1
  have hT := E.2.2.2.2.2.2.2.1
  unfold fX4_xAt_b34 at hf
  cases hf
  exact q_iret E hH dX4_xAt_34
def fX4_xAt_b17 (h : Nat) (Z : q_Z) (M : q_C) : Option (Int32) :=
  fX4_xAt_b34 h (0 : Int32) Z M
set_option maxHeartbeats 4000000 in
set_option maxRecDepth 100000 in
theorem bX4_xAt_17 {cells slots : Nat} (E : q_E p s m meth c cX4_xAt 2 RX4 (some .int) "xAt" D cA) (hR : 1 ≤ R.frames ∧ 22 ≤ R.locals) (hcc : cells ≤ R.cells ∧ slots ≤ R.slots) (h : Nat) (Z : q_Z) (M : q_C) (H : Heap) (locs : List Loc) (ls : Array Slot) (r : Int32) (hf : fX4_xAt_b17 h Z M = some r) (hH : q_Hh D cA z0 s Z M H locs) (hl : lv_has ls 2 [])  : W p l e R s m args below meth c H locs cells slots (MQ below (q_Q D cA z0 (some (.int r)) Z M) args s cells slots (fun q => z0 ≤ q)) (F0 m 17 ls []) := by
  have hx := E.1
  have hb := E.2.1
  have hown := E.2.2.2.1
  have hT := E.2.2.2.2.2.2.2.1
  unfold fX4_xAt_b17 at hf
  refine lv_iconst (v := 0) hx hb dX4_xAt_17 (by decide) ?_
  refine lv_goto (tgt := 34) hx hb dX4_xAt_18 (by decide) ?_
  exact bX4_xAt_34 E hR hcc h (0 : Int32) Z M _ _ _ _ hf hH (lv_sub hl [] rfl)
def fX4_xAt (h : Nat) (v1 : Int32) (Z : q_Z) (M : q_C) : Option (Int32) :=
  q_gd (zK Z h == 14) <|
  if gI M h 2 < (1 : Int32) then
    fX4_xAt_b17 h Z M
  else
    if gI M h 2 ≤ (40 : Int32) then
      Option.bind (gR M h 0) fun a_2 =>
      Option.bind (fJ9_floorMod_7cf53 v1 (gI M h 2)) fun r_4 =>
      q_gd (q_ok Z a_2 1 r_4) <|
      fX4_xAt_b34 h (gI M a_2 r_4.toNatClampNeg) Z M
    else
      fX4_xAt_b17 h Z M
set_option maxHeartbeats 4000000 in
set_option maxRecDepth 100000 in
theorem bX4_xAt_0 {cells slots : Nat} (E : q_E p s m meth c cX4_xAt 2 RX4 (some .int) "xAt" D cA) (hR : 1 ≤ R.frames ∧ 22 ≤ R.locals) (hcc : cells ≤ R.cells ∧ slots ≤ R.slots) (h : Nat) (v1 : Int32) (Z : q_Z) (M : q_C) (H : Heap) (locs : List Loc) (ls : Array Slot) (r : Int32) (hf : fX4_xAt h v1 Z M = some r) (hH : q_Hh D cA z0 s Z M H locs) (hl : lv_has ls 2 [(0, .ref h), (1, .int v1)])  : W p l e R s m args below meth c H locs cells slots (MQ below (q_Q D cA z0 (some (.int r)) Z M) args s cells slots (fun q => z0 ≤ q)) (F0 m 0 ls []) := by
  have hx := E.1
  have hb := E.2.1
  have hown := E.2.2.2.1
  have hT := E.2.2.2.2.2.2.2.1
  unfold fX4_xAt at hf
  refine lv_aload_n hx hb dX4_xAt_0 rfl (lv_at hl 0 rfl) ?_
  obtain ⟨hk_1, hf⟩ := q_gdE hf
  have hk_1 := q_keq hk_1
  refine q_getI E hH (ci := 4) rfl 2 (by decide) kF_X4_18 (fun _ _ _ => rfl) hk_1 dX4_xAt_1 ?_
  refine lv_iconst (v := 1) hx hb dX4_xAt_4 (by decide) ?_
  refine lv_icmp_lt (tgt := 17) hx hb dX4_xAt_5 (by decide) (fun cc_8 => ?_) (fun cc_8 => ?_)
  · replace hf := q_ifT cc_8 hf
    clear cc_8
    exact bX4_xAt_17 E hR hcc h Z M _ _ _ _ hf hH (lv_sub hl [] rfl)
  · replace hf := q_ifF cc_8 hf
    clear cc_8
    refine lv_aload_n hx hb dX4_xAt_8 rfl (lv_at hl 0 rfl) ?_
    refine q_getI E hH (ci := 4) rfl 2 (by decide) kF_X4_18 (fun _ _ _ => rfl) hk_1 dX4_xAt_9 ?_
    refine lv_bipush (v := 40) hx hb dX4_xAt_12 (by decide) ?_
    refine lv_icmp_le (tgt := 21) hx hb dX4_xAt_14 (by decide) (fun cc_7 => ?_) (fun cc_7 => ?_)
    · replace hf := q_ifT cc_7 hf
      clear cc_7
      refine lv_aload_n hx hb dX4_xAt_21 rfl (lv_at hl 0 rfl) ?_
      refine q_getR E hH (ci := 4) rfl 0 (by decide) kF_X4_9 (fun _ _ _ => rfl) hk_1 dX4_xAt_22 ?_
      obtain ⟨a_2, he_3, hf⟩ := q_biE hf
      rw [he_3]
      refine lv_iload_n hx hb dX4_xAt_25 rfl (lv_at hl 1 rfl) ?_
      refine lv_aload_n hx hb dX4_xAt_26 rfl (lv_at hl 0 rfl) ?_
      refine q_getI E hH (ci := 4) rfl 2 (by decide) kF_X4_18 (fun _ _ _ => rfl) hk_1 dX4_xAt_27 ?_
      obtain ⟨r_4, hw_5, hf⟩ := q_biE hf
      refine q_cS (As := [.int v1, .int (gI M h 2)]) (rest := [.ref a_2]) (st1 := [.int r_4, .ref a_2]) E hH (tJ9_floorMod_7cf53 l D cA z0 Z M v1 (gI M h 2) r_4 hw_5) mw_J9_floorMod_7cf53 mi_J9_floorMod_7cf53 kM_X4_22 hcc rfl rfl rfl hl.1 rfl rfl (Nat.le_of_ble_eq_true rfl) ⟨Nat.le_trans (by decide) hR.1, Nat.le_trans (by decide) hR.2⟩ dX4_xAt_30 (fun H locs hH => ?_)
      obtain ⟨hz_6, hf⟩ := q_gdE hf
      refine q_iaload E hH hz_6 dX4_xAt_33 ?_
      exact bX4_xAt_34 E hR hcc h (gI M a_2 r_4.toNatClampNeg) Z M _ _ _ _ hf hH (lv_sub hl [] rfl)
    · replace hf := q_ifF cc_7 hf
      clear cc_7
      exact bX4_xAt_17 E hR hcc h Z M _ _ _ _ hf hH (lv_sub hl [] rfl)
set_option maxRecDepth 100000 in
theorem tX4_xAt (l : Launch) (D : va_G) (cA : Nat → ClassId) (z0 : Nat) (h : Nat) (v1 : Int32) (Z : q_Z) (M : q_C) (r : Int32) (hf : fX4_xAt h v1 Z M = some r) : q_Ct l D cA z0 yX4_xAt cX4_xAt 2 (some .int) 1 22 [.ref h, .int v1] Z M (some (.int r)) Z M 0 0 := by
  (refine q_start (plainFor_of_name (by decide)) (Nat.le_of_ble_eq_true rfl) (fun p e s m below meth c H ls E hH hl => ?_); exact bX4_xAt_0 E ⟨Nat.le_refl _, Nat.le_refl _⟩ ⟨Nat.le_refl _, Nat.le_refl _⟩ h _ Z M H [] ls r hf hH hl)
def fX6_length_L39 (v4 : Int64) (v6 : Int64) (v8 : Int32) : Option ((Int64 × Int32) ⊕ (Int64 ⊕ Int64)) :=
  if (64 : Int32) ≤ v8 then
    some (Sum.inr (Sum.inr v6))
  else
    if v6 ≤ (0 : Int64) then
      some (Sum.inr (Sum.inr v6))
    else
      q_gd (!(decide (v6 = 0))) <|
      q_gd (!(decide ((2 : Int64) = 0))) <|
      q_nm ((v6 + (v4 / v6)) / (2 : Int64)) fun v9_7 =>
      if v9_7 < v6 then
        q_nm (v8 + (1 : Int32)) fun v8_9 =>
        some (Sum.inl (v9_7, v8_9))
      else
        some (Sum.inr (Sum.inl v6))
set_option maxHeartbeats 4000000 in
set_option maxRecDepth 100000 in
theorem lX6_length_39 {cells slots : Nat} {Q : State → Prop} (E : q_E p s m meth c cX6_length 11 RX6 (some .long) "length" D cA) (hR : 0 ≤ R.frames ∧ 0 ≤ R.locals) (hcc : cells ≤ R.cells ∧ slots ≤ R.slots)  (Z : q_Z) (M : q_C) (v4 : Int64) : ∀ (n : Nat) (v6 : Int64) (v8 : Int32) (H : Heap) (locs : List Loc) (ls : Array Slot) (r : Int64 ⊕ Int64), q_it (fun x => fX6_length_L39 v4 x.1 x.2) n (v6, v8) = some r → q_Hh D cA z0 s Z M H locs → lv_has ls 11 [(4, .long v4), (6, .long v6), (8, .int v8)] → (kx0 : ∀ (w6 : Int64) (H : Heap) (locs : List Loc) (ls : Array Slot), (Sum.inl w6) = r → q_Hh D cA z0 s Z M H locs → lv_has ls 11 [(6, .long w6)] → W p l e R s m args below meth c H locs cells slots Q (F0 m 75 ls [])) → (kx1 : ∀ (w6 : Int64) (H : Heap) (locs : List Loc) (ls : Array Slot), (Sum.inr w6) = r → q_Hh D cA z0 s Z M H locs → lv_has ls 11 [(6, .long w6)] → W p l e R s m args below meth c H locs cells slots Q (F0 m 88 ls [])) → W p l e R s m args below meth c H locs cells slots Q (F0 m 39 ls []) := by
  have hx := E.1
  have hb := E.2.1
  have hown := E.2.2.2.1
  have hT := E.2.2.2.2.2.2.2.1
  intro n
  induction n with
  | zero =>
    intro v6 v8 H locs ls r hf
    cases hf
  | succ n ih =>
    intro v6 v8 H locs ls r hf hH hl ky0 ky1
    obtain ⟨n1, o, hn, hf, ho⟩ := q_itE hf
    cases hn
    have hf : fX6_length_L39 v4 v6 v8 = some o := hf
    have kb : ∀ (w6 : Int64) (w8 : Int32) (H : Heap) (locs : List Loc) (ls : Array Slot), Sum.inl (w6, w8) = o → q_Hh D cA z0 s Z M H locs → lv_has ls 11 [(4, .long v4), (6, .long w6), (8, .int w8)] → W p l e R s m args below meth c H locs cells slots Q (F0 m 39 ls []) := by
      intro w6 w8 H locs ls e hH hl
      subst e
      exact ih w6 w8 H locs ls r ho hH hl ky0 ky1
    have kx0 : ∀ (w6 : Int64) (H : Heap) (locs : List Loc) (ls : Array Slot), Sum.inr (Sum.inl w6) = o → q_Hh D cA z0 s Z M H locs → lv_has ls 11 [(6, .long w6)] → W p l e R s m args below meth c H locs cells slots Q (F0 m 75 ls []) := by
      intro w6 H locs ls e hH hl
      subst e
      exact ky0 w6 H locs ls ho hH hl
    have kx1 : ∀ (w6 : Int64) (H : Heap) (locs : List Loc) (ls : Array Slot), Sum.inr (Sum.inr w6) = o → q_Hh D cA z0 s Z M H locs → lv_has ls 11 [(6, .long w6)] → W p l e R s m args below meth c H locs cells slots Q (F0 m 88 ls []) := by
      intro w6 H locs ls e hH hl
      subst e
      exact ky1 w6 H locs ls ho hH hl
    unfold fX6_length_L39 at hf
    refine lv_iload hx hb dX6_length_39 (lv_at hl 2 rfl) ?_
    refine lv_bipush (v := 64) hx hb dX6_length_41 (by decide) ?_
    refine lv_icmp_ge (tgt := 88) hx hb dX6_length_43 (by decide) (fun cc_13 => ?_) (fun cc_13 => ?_)
    · replace hf := q_ifT cc_13 hf
      clear cc_13
      cases hf
      exact kx1 v6 _ _ _ rfl hH (lv_sub hl [1] rfl)
    · replace hf := q_ifF cc_13 hf
      clear cc_13
      refine lv_lload hx hb dX6_length_46 (lv_at hl 1 rfl) ?_
      refine lv_lconst (v := 0) hx hb dX6_length_48 (by decide) ?_
      refine q_lcmp_le (pc1 := 50) (tgt := 88) hx hb dX6_length_49 rfl dX6_length_50 (by decide) (fun cc_12 => ?_) (fun cc_12 => ?_)
      · replace hf := q_ifT cc_12 hf
        clear cc_12
        cases hf
        exact kx1 v6 _ _ _ rfl hH (lv_sub hl [1] rfl)
      · replace hf := q_ifF cc_12 hf
        clear cc_12
        refine lv_lload hx hb dX6_length_53 (lv_at hl 1 rfl) ?_
        refine lv_lload hx hb dX6_length_55 (lv_at hl 0 rfl) ?_
        refine lv_lload hx hb dX6_length_57 (lv_at hl 1 rfl) ?_
        obtain ⟨hz_5, hf⟩ := q_gdE hf
        refine lv_ldiv hx hb dX6_length_59 (by simpa using hz_5) ?_
        refine lv_ladd hx hb dX6_length_60 ?_
        refine lv_ldc2 hx hb hown (hT.1 _ _ kK_X6_269) dX6_length_61 ?_
        obtain ⟨hz_6, hf⟩ := q_gdE hf
        refine lv_ldiv hx hb dX6_length_64 (by simpa using hz_6) ?_
        refine lv_topl (fun v9_7 hn_8 => ?_)
        replace hf := q_nmE hn_8 hf
        clear hn_8
        refine lv_lstore (lv' := [(9, .long v9_7), (4, .long v4), (6, .long v6), (8, .int v8)]) hx hb dX6_length_65 hl (by decide) rfl (fun ls hl => ?_)
        refine lv_lload hx hb dX6_length_67 (lv_at hl 0 rfl) ?_
        refine lv_lload hx hb dX6_length_69 (lv_at hl 2 rfl) ?_
        refine q_lcmp_lt (pc1 := 72) (tgt := 78) hx hb dX6_length_71 rfl dX6_length_72 (by decide) (fun cc_11 => ?_) (fun cc_11 => ?_)
        · replace hf := q_ifT cc_11 hf
          clear cc_11
          refine lv_lload hx hb dX6_length_78 (lv_at hl 0 rfl) ?_
          refine lv_lstore (lv' := [(6, .long v9_7), (9, .long v9_7), (4, .long v4), (8, .int v8)]) hx hb dX6_length_80 hl (by decide) rfl (fun ls hl => ?_)
          obtain ⟨v8_9, hn_10⟩ : ∃ y : Int32, y = v8 + (1 : Int32) := ⟨_, rfl⟩
          replace hf := q_nmE hn_10 hf
          refine lv_iinc (v := v8_9) (lv' := [(8, .int v8_9), (6, .long v9_7), (9, .long v9_7), (4, .long v4)]) hx hb dX6_length_82 hl (k := 3) rfl (by rw [hn_10]; rfl) (by decide) rfl (fun ls hl => ?_)
          clear hn_10
          refine lv_goto (tgt := 39) hx hb dX6_length_85 (by decide) ?_
          cases hf
          exact kb v9_7 v8_9 _ _ _ rfl hH (lv_sub hl [3, 1, 0] rfl)
        · replace hf := q_ifF cc_11 hf
          clear cc_11
          cases hf
          exact kx0 v6 _ _ _ rfl hH (lv_sub hl [2] rfl)
def fX6_length_b88 (v6 : Int64) : Option (Int64) :=
  some v6
set_option maxHeartbeats 4000000 in
set_option maxRecDepth 100000 in
theorem bX6_length_88 {cells slots : Nat} (E : q_E p s m meth c cX6_length 11 RX6 (some .long) "length" D cA) (hR : 0 ≤ R.frames ∧ 0 ≤ R.locals) (hcc : cells ≤ R.cells ∧ slots ≤ R.slots) (Z : q_Z) (M : q_C) (v6 : Int64) (H : Heap) (locs : List Loc) (ls : Array Slot) (r : Int64) (hf : fX6_length_b88 v6 = some r) (hH : q_Hh D cA z0 s Z M H locs) (hl : lv_has ls 11 [(6, .long v6)])  : W p l e R s m args below meth c H locs cells slots (MQ below (q_Q D cA z0 (some (.long r)) Z M) args s cells slots (fun q => z0 ≤ q)) (F0 m 88 ls []) := by
  have hx := E.1
  have hb := E.2.1
  have hown := E.2.2.2.1
  have hT := E.2.2.2.2.2.2.2.1
  unfold fX6_length_b88 at hf
  refine lv_lload hx hb dX6_length_88 (lv_at hl 0 rfl) ?_
  cases hf
  exact q_lret E hH dX6_length_90
def fX6_length_b33 (v4 : Int64) (s0 : Int64) (s1 : Int64) : Option (Int64) :=
  q_nm (s1 + s0) fun v6_3 =>
  Option.bind (q_it (fun x => fX6_length_L39 v4 x.1 x.2) q_FU (v6_3, (0 : Int32))) fun r_14 =>
  q_sm r_14 (fun e_16 =>
    q_nm e_16 fun v6_17 =>
    some v6_17
  ) fun e_18 =>
  q_nm e_18 fun v6_19 =>
  fX6_length_b88 v6_19
set_option maxHeartbeats 4000000 in
set_option maxRecDepth 100000 in
theorem bX6_length_33 {cells slots : Nat} (E : q_E p s m meth c cX6_length 11 RX6 (some .long) "length" D cA) (hR : 0 ≤ R.frames ∧ 0 ≤ R.locals) (hcc : cells ≤ R.cells ∧ slots ≤ R.slots) (Z : q_Z) (M : q_C) (v4 : Int64) (s0 : Int64) (s1 : Int64) (H : Heap) (locs : List Loc) (ls : Array Slot) (r : Int64) (hf : fX6_length_b33 v4 s0 s1 = some r) (hH : q_Hh D cA z0 s Z M H locs) (hl : lv_has ls 11 [(4, .long v4)])  : W p l e R s m args below meth c H locs cells slots (MQ below (q_Q D cA z0 (some (.long r)) Z M) args s cells slots (fun q => z0 ≤ q)) (F0 m 33 ls [.long s0, .long s1]) := by
  have hx := E.1
  have hb := E.2.1
  have hown := E.2.2.2.1
  have hT := E.2.2.2.2.2.2.2.1
  unfold fX6_length_b33 at hf
  refine lv_ladd hx hb dX6_length_33 ?_
  refine lv_topl (fun v6_3 hn_4 => ?_)
  replace hf := q_nmE hn_4 hf
  clear hn_4
  refine lv_lstore (lv' := [(6, .long v6_3), (4, .long v4)]) hx hb dX6_length_34 hl (by decide) rfl (fun ls hl => ?_)
  refine lv_iconst (v := 0) hx hb dX6_length_36 (by decide) ?_
  refine lv_istore (lv' := [(8, .int (0 : Int32)), (6, .long v6_3), (4, .long v4)]) hx hb dX6_length_37 hl (by decide) rfl (fun ls hl => ?_)
  obtain ⟨r_14, hr_15, hf⟩ := q_biE hf
  refine lX6_length_39 E hR hcc Z M v4 q_FU v6_3 (0 : Int32) _ _ _ r_14 hr_15 hH (lv_sub hl [2, 1, 0] rfl) (fun v6_17 H locs ls he_20 hH hl => ?_) (fun v6_19 H locs ls he_21 hH hl => ?_)
  · subst he_20
    replace hf := q_smL hf
    replace hf := q_nmE (x := v6_17) rfl hf
    refine lv_lload hx hb dX6_length_75 (lv_at hl 0 rfl) ?_
    cases hf
    exact q_lret E hH dX6_length_77
  · subst he_21
    replace hf := q_smR hf
    replace hf := q_nmE (x := v6_19) rfl hf
    exact bX6_length_88 E hR hcc Z M v6_19 _ _ _ _ hf hH (lv_sub hl [0] rfl)
def fX6_length_b21 (v2 : Int64) (v4 : Int64) (s0 : Int64) : Option (Int64) :=
  if (0 : Int64) ≤ v2 then
    fX6_length_b33 v4 v2 s0
  else
    fX6_length_b33 v4 (-v2) s0
set_option maxHeartbeats 4000000 in
set_option maxRecDepth 100000 in
theorem bX6_length_21 {cells slots : Nat} (E : q_E p s m meth c cX6_length 11 RX6 (some .long) "length" D cA) (hR : 0 ≤ R.frames ∧ 0 ≤ R.locals) (hcc : cells ≤ R.cells ∧ slots ≤ R.slots) (Z : q_Z) (M : q_C) (v2 : Int64) (v4 : Int64) (s0 : Int64) (H : Heap) (locs : List Loc) (ls : Array Slot) (r : Int64) (hf : fX6_length_b21 v2 v4 s0 = some r) (hH : q_Hh D cA z0 s Z M H locs) (hl : lv_has ls 11 [(2, .long v2), (4, .long v4)])  : W p l e R s m args below meth c H locs cells slots (MQ below (q_Q D cA z0 (some (.long r)) Z M) args s cells slots (fun q => z0 ≤ q)) (F0 m 21 ls [.long s0]) := by
  have hx := E.1
  have hb := E.2.1
  have hown := E.2.2.2.1
  have hT := E.2.2.2.2.2.2.2.1
  unfold fX6_length_b21 at hf
  refine lv_lload_n hx hb dX6_length_21 rfl (lv_at hl 0 rfl) ?_
  refine lv_lconst (v := 0) hx hb dX6_length_22 (by decide) ?_
  refine q_lcmp_ge (pc1 := 24) (tgt := 32) hx hb dX6_length_23 rfl dX6_length_24 (by decide) (fun cc_22 => ?_) (fun cc_22 => ?_)
  · replace hf := q_ifT cc_22 hf
    clear cc_22
    refine lv_lload_n hx hb dX6_length_32 rfl (lv_at hl 0 rfl) ?_
    exact bX6_length_33 E hR hcc Z M v4 v2 s0 _ _ _ _ hf hH (lv_sub hl [1] rfl)
  · replace hf := q_ifF cc_22 hf
    clear cc_22
    refine lv_lload_n hx hb dX6_length_27 rfl (lv_at hl 0 rfl) ?_
    refine lv_lneg hx hb dX6_length_28 ?_
    refine lv_goto (tgt := 33) hx hb dX6_length_29 (by decide) ?_
    exact bX6_length_33 E hR hcc Z M v4 (-v2) s0 _ _ _ _ hf hH (lv_sub hl [1] rfl)
def fX6_length (v0 : Int64) (v2 : Int64) : Option (Int64) :=
  q_nm ((v0 * v0) + (v2 * v2)) fun v4_1 =>
  if (0 : Int64) ≤ v0 then
    fX6_length_b21 v2 v4_1 v0
  else
    fX6_length_b21 v2 v4_1 (-v0)
set_option maxHeartbeats 4000000 in
set_option maxRecDepth 100000 in
theorem bX6_length_0 {cells slots : Nat} (E : q_E p s m meth c cX6_length 11 RX6 (some .long) "length" D cA) (hR : 0 ≤ R.frames ∧ 0 ≤ R.locals) (hcc : cells ≤ R.cells ∧ slots ≤ R.slots) (Z : q_Z) (M : q_C) (v0 : Int64) (v2 : Int64) (H : Heap) (locs : List Loc) (ls : Array Slot) (r : Int64) (hf : fX6_length v0 v2 = some r) (hH : q_Hh D cA z0 s Z M H locs) (hl : lv_has ls 11 [(0, .long v0), (2, .long v2)])  : W p l e R s m args below meth c H locs cells slots (MQ below (q_Q D cA z0 (some (.long r)) Z M) args s cells slots (fun q => z0 ≤ q)) (F0 m 0 ls []) := by
  have hx := E.1
  have hb := E.2.1
  have hown := E.2.2.2.1
  have hT := E.2.2.2.2.2.2.2.1
  unfold fX6_length at hf
  refine lv_lload_n hx hb dX6_length_0 rfl (lv_at hl 0 rfl) ?_
  refine lv_lload_n hx hb dX6_length_1 rfl (lv_at hl 0 rfl) ?_
  refine lv_lmul hx hb dX6_length_2 ?_
  refine lv_lload_n hx hb dX6_length_3 rfl (lv_at hl 1 rfl) ?_
  refine lv_lload_n hx hb dX6_length_4 rfl (lv_at hl 1 rfl) ?_
  refine lv_lmul hx hb dX6_length_5 ?_
  refine lv_ladd hx hb dX6_length_6 ?_
  refine lv_topl (fun v4_1 hn_2 => ?_)
  replace hf := q_nmE hn_2 hf
  clear hn_2
  refine lv_lstore (lv' := [(4, .long v4_1), (0, .long v0), (2, .long v2)]) hx hb dX6_length_7 hl (by decide) rfl (fun ls hl => ?_)
  refine lv_lload_n hx hb dX6_length_9 rfl (lv_at hl 1 rfl) ?_
  refine lv_lconst (v := 0) hx hb dX6_length_10 (by decide) ?_
  refine q_lcmp_ge (pc1 := 12) (tgt := 20) hx hb dX6_length_11 rfl dX6_length_12 (by decide) (fun cc_23 => ?_) (fun cc_23 => ?_)
  · replace hf := q_ifT cc_23 hf
    clear cc_23
    refine lv_lload_n hx hb dX6_length_20 rfl (lv_at hl 1 rfl) ?_
    exact bX6_length_21 E hR hcc Z M v2 v4_1 v0 _ _ _ _ hf hH (lv_sub hl [2, 0] rfl)
  · replace hf := q_ifF cc_23 hf
    clear cc_23
    refine lv_lload_n hx hb dX6_length_15 rfl (lv_at hl 1 rfl) ?_
    refine lv_lneg hx hb dX6_length_16 ?_
    refine lv_goto (tgt := 21) hx hb dX6_length_17 (by decide) ?_
    exact bX6_length_21 E hR hcc Z M v2 v4_1 (-v0) _ _ _ _ hf hH (lv_sub hl [2, 0] rfl)
set_option maxRecDepth 100000 in
theorem tX6_length (l : Launch) (D : va_G) (cA : Nat → ClassId) (z0 : Nat) (Z : q_Z) (M : q_C) (v0 : Int64) (v2 : Int64) (r : Int64) (hf : fX6_length v0 v2 = some r) : q_Ct l D cA z0 yX6_length cX6_length 11 (some .long) 0 0 [.long v0, .long v2] Z M (some (.long r)) Z M 0 0 := by
  (refine q_start (plainFor_of_name (by decide)) (Nat.le_of_ble_eq_true rfl) (fun p e s m below meth c H ls E hH hl => ?_); exact bX6_length_0 E ⟨Nat.le_refl _, Nat.le_refl _⟩ ⟨Nat.le_refl _, Nat.le_refl _⟩ Z M _ _ H [] ls r hf hH hl)
def fX2_part_b32 (h : Nat) (s0 : Int32) (Z : q_Z) (M : q_C) : Option (Int32) :=
  some s0
set_option maxHeartbeats 4000000 in
set_option maxRecDepth 100000 in
theorem bX2_part_32 {cells slots : Nat} (E : q_E p s m meth c cX2_part 5 RX2 (some .int) "part" D cA) (hR : 1 ≤ R.frames ∧ 30 ≤ R.locals) (hcc : cells ≤ R.cells ∧ slots ≤ R.slots) (h : Nat) (s0 : Int32) (Z : q_Z) (M : q_C) (H : Heap) (locs : List Loc) (ls : Array Slot) (r : Int32) (hf : fX2_part_b32 h s0 Z M = some r) (hH : q_Hh D cA z0 s Z M H locs) (hl : lv_has ls 5 [])  : W p l e R s m args below meth c H locs cells slots (MQ below (q_Q D cA z0 (some (.int r)) Z M) args s cells slots (fun q => z0 ≤ q)) (F0 m 32 ls [.int s0]) := by
  have hx := E.1
  have hb := E.2.1
  have hown := E.2.2.2.1
  have hT := E.2.2.2.2.2.2.2.1
  unfold fX2_part_b32 at hf
  cases hf
  exact q_iret E hH dX2_part_32
def fX2_part (h : Nat) (v1 : Int32) (v2 : Int32) (Z : q_Z) (M : q_C) : Option (Int32) :=
  q_gd (zK Z h == 12) <|
  Option.bind (fX6_length ((gI M h 2).toInt64) ((gI M h 3).toInt64)) fun r_2 =>
  if (1 : Int64) ≤ r_2 then
    q_gd (!(decide (r_2 = 0))) <|
    fX2_part_b32 h (((v1.toInt64 * v2.toInt64) / r_2).toInt32) Z M
  else
    fX2_part_b32 h (0 : Int32) Z M
set_option maxHeartbeats 4000000 in
set_option maxRecDepth 100000 in
theorem bX2_part_0 {cells slots : Nat} (E : q_E p s m meth c cX2_part 5 RX2 (some .int) "part" D cA) (hR : 1 ≤ R.frames ∧ 30 ≤ R.locals) (hcc : cells ≤ R.cells ∧ slots ≤ R.slots) (h : Nat) (v1 : Int32) (v2 : Int32) (Z : q_Z) (M : q_C) (H : Heap) (locs : List Loc) (ls : Array Slot) (r : Int32) (hf : fX2_part h v1 v2 Z M = some r) (hH : q_Hh D cA z0 s Z M H locs) (hl : lv_has ls 5 [(0, .ref h), (1, .int v1), (2, .int v2)])  : W p l e R s m args below meth c H locs cells slots (MQ below (q_Q D cA z0 (some (.int r)) Z M) args s cells slots (fun q => z0 ≤ q)) (F0 m 0 ls []) := by
  have hx := E.1
  have hb := E.2.1
  have hown := E.2.2.2.1
  have hT := E.2.2.2.2.2.2.2.1
  unfold fX2_part at hf
  refine lv_aload_n hx hb dX2_part_0 rfl (lv_at hl 0 rfl) ?_
  obtain ⟨hk_1, hf⟩ := q_gdE hf
  have hk_1 := q_keq hk_1
  refine q_getI E hH (ci := 2) rfl 2 (by decide) kF_X2_18 (fun _ _ _ => rfl) hk_1 dX2_part_1 ?_
  refine lv_i2l hx hb dX2_part_4 rfl ?_
  refine lv_aload_n hx hb dX2_part_5 rfl (lv_at hl 0 rfl) ?_
  refine q_getI E hH (ci := 2) rfl 3 (by decide) kF_X2_21 (fun _ _ _ => rfl) hk_1 dX2_part_6 ?_
  refine lv_i2l hx hb dX2_part_9 rfl ?_
  obtain ⟨r_2, hw_3, hf⟩ := q_biE hf
  refine q_cSN (As := [.long ((gI M h 2).toInt64), .long ((gI M h 3).toInt64)]) (rest := []) (st1 := [.long r_2]) E hH (tX6_length l D cA z0 Z M ((gI M h 2).toInt64) ((gI M h 3).toInt64) r_2 hw_3) mw_X6_length mi_X6_length kM_X2_27 hcc rfl rfl rfl hl.1 rfl rfl (Nat.le_of_ble_eq_true rfl) ⟨Nat.le_trans (by decide) hR.1, Nat.le_trans (by decide) hR.2⟩ dX2_part_10 (fun H locs hH => ?_)
  refine lv_lstore_n (lv' := [(3, .long r_2), (0, .ref h), (1, .int v1), (2, .int v2)]) hx hb dX2_part_13 rfl hl (by decide) rfl (fun ls hl => ?_)
  refine lv_lload_n hx hb dX2_part_14 rfl (lv_at hl 0 rfl) ?_
  refine lv_lconst (v := 1) hx hb dX2_part_15 (by decide) ?_
  refine q_lcmp_ge (pc1 := 17) (tgt := 24) hx hb dX2_part_16 rfl dX2_part_17 (by decide) (fun cc_5 => ?_) (fun cc_5 => ?_)
  · replace hf := q_ifT cc_5 hf
    clear cc_5
    refine lv_iload_n hx hb dX2_part_24 rfl (lv_at hl 2 rfl) ?_
    refine lv_i2l hx hb dX2_part_25 rfl ?_
    refine lv_iload_n hx hb dX2_part_26 rfl (lv_at hl 3 rfl) ?_
    refine lv_i2l hx hb dX2_part_27 rfl ?_
    refine lv_lmul hx hb dX2_part_28 ?_
    refine lv_lload_n hx hb dX2_part_29 rfl (lv_at hl 0 rfl) ?_
    obtain ⟨hz_4, hf⟩ := q_gdE hf
    refine lv_ldiv hx hb dX2_part_30 (by simpa using hz_4) ?_
    refine lv_l2i hx hb dX2_part_31 rfl ?_
    exact bX2_part_32 E hR hcc h (((v1.toInt64 * v2.toInt64) / r_2).toInt32) Z M _ _ _ _ hf hH (lv_sub hl [] rfl)
  · replace hf := q_ifF cc_5 hf
    clear cc_5
    refine lv_iconst (v := 0) hx hb dX2_part_20 (by decide) ?_
    refine lv_goto (tgt := 32) hx hb dX2_part_21 (by decide) ?_
    exact bX2_part_32 E hR hcc h (0 : Int32) Z M _ _ _ _ hf hH (lv_sub hl [] rfl)
set_option maxRecDepth 100000 in
theorem tX2_part (l : Launch) (D : va_G) (cA : Nat → ClassId) (z0 : Nat) (h : Nat) (v1 : Int32) (v2 : Int32) (Z : q_Z) (M : q_C) (r : Int32) (hf : fX2_part h v1 v2 Z M = some r) : q_Ct l D cA z0 yX2_part cX2_part 5 (some .int) 1 30 [.ref h, .int v1, .int v2] Z M (some (.int r)) Z M 0 0 := by
  (refine q_start (plainFor_of_name (by decide)) (Nat.le_of_ble_eq_true rfl) (fun p e s m below meth c H ls E hH hl => ?_); exact bX2_part_0 E ⟨Nat.le_refl _, Nat.le_refl _⟩ ⟨Nat.le_refl _, Nat.le_refl _⟩ h _ _ Z M H [] ls r hf hH hl)
def fX4_yAt_b34 (h : Nat) (s0 : Int32) (Z : q_Z) (M : q_C) : Option (Int32) :=
  some s0
set_option maxHeartbeats 4000000 in
set_option maxRecDepth 100000 in
theorem bX4_yAt_34 {cells slots : Nat} (E : q_E p s m meth c cX4_yAt 2 RX4 (some .int) "yAt" D cA) (hR : 1 ≤ R.frames ∧ 22 ≤ R.locals) (hcc : cells ≤ R.cells ∧ slots ≤ R.slots) (h : Nat) (s0 : Int32) (Z : q_Z) (M : q_C) (H : Heap) (locs : List Loc) (ls : Array Slot) (r : Int32) (hf : fX4_yAt_b34 h s0 Z M = some r) (hH : q_Hh D cA z0 s Z M H locs) (hl : lv_has ls 2 [])  : W p l e R s m args below meth c H locs cells slots (MQ below (q_Q D cA z0 (some (.int r)) Z M) args s cells slots (fun q => z0 ≤ q)) (F0 m 34 ls [.int s0]) := by
  have hx := E.1
  have hb := E.2.1
  have hown := E.2.2.2.1
  have hT := E.2.2.2.2.2.2.2.1
  unfold fX4_yAt_b34 at hf
  cases hf
  exact q_iret E hH dX4_yAt_34
def fX4_yAt_b17 (h : Nat) (Z : q_Z) (M : q_C) : Option (Int32) :=
  fX4_yAt_b34 h (0 : Int32) Z M
set_option maxHeartbeats 4000000 in
set_option maxRecDepth 100000 in
theorem bX4_yAt_17 {cells slots : Nat} (E : q_E p s m meth c cX4_yAt 2 RX4 (some .int) "yAt" D cA) (hR : 1 ≤ R.frames ∧ 22 ≤ R.locals) (hcc : cells ≤ R.cells ∧ slots ≤ R.slots) (h : Nat) (Z : q_Z) (M : q_C) (H : Heap) (locs : List Loc) (ls : Array Slot) (r : Int32) (hf : fX4_yAt_b17 h Z M = some r) (hH : q_Hh D cA z0 s Z M H locs) (hl : lv_has ls 2 [])  : W p l e R s m args below meth c H locs cells slots (MQ below (q_Q D cA z0 (some (.int r)) Z M) args s cells slots (fun q => z0 ≤ q)) (F0 m 17 ls []) := by
  have hx := E.1
  have hb := E.2.1
  have hown := E.2.2.2.1
  have hT := E.2.2.2.2.2.2.2.1
  unfold fX4_yAt_b17 at hf
  refine lv_iconst (v := 0) hx hb dX4_yAt_17 (by decide) ?_
  refine lv_goto (tgt := 34) hx hb dX4_yAt_18 (by decide) ?_
  exact bX4_yAt_34 E hR hcc h (0 : Int32) Z M _ _ _ _ hf hH (lv_sub hl [] rfl)
def fX4_yAt (h : Nat) (v1 : Int32) (Z : q_Z) (M : q_C) : Option (Int32) :=
  q_gd (zK Z h == 14) <|
  if gI M h 2 < (1 : Int32) then
    fX4_yAt_b17 h Z M
  else
    if gI M h 2 ≤ (40 : Int32) then
      Option.bind (gR M h 1) fun a_2 =>
      Option.bind (fJ9_floorMod_7cf53 v1 (gI M h 2)) fun r_4 =>
      q_gd (q_ok Z a_2 1 r_4) <|
      fX4_yAt_b34 h (gI M a_2 r_4.toNatClampNeg) Z M
    else
      fX4_yAt_b17 h Z M
set_option maxHeartbeats 4000000 in
set_option maxRecDepth 100000 in
theorem bX4_yAt_0 {cells slots : Nat} (E : q_E p s m meth c cX4_yAt 2 RX4 (some .int) "yAt" D cA) (hR : 1 ≤ R.frames ∧ 22 ≤ R.locals) (hcc : cells ≤ R.cells ∧ slots ≤ R.slots) (h : Nat) (v1 : Int32) (Z : q_Z) (M : q_C) (H : Heap) (locs : List Loc) (ls : Array Slot) (r : Int32) (hf : fX4_yAt h v1 Z M = some r) (hH : q_Hh D cA z0 s Z M H locs) (hl : lv_has ls 2 [(0, .ref h), (1, .int v1)])  : W p l e R s m args below meth c H locs cells slots (MQ below (q_Q D cA z0 (some (.int r)) Z M) args s cells slots (fun q => z0 ≤ q)) (F0 m 0 ls []) := by
  have hx := E.1
  have hb := E.2.1
  have hown := E.2.2.2.1
  have hT := E.2.2.2.2.2.2.2.1
  unfold fX4_yAt at hf
  refine lv_aload_n hx hb dX4_yAt_0 rfl (lv_at hl 0 rfl) ?_
  obtain ⟨hk_1, hf⟩ := q_gdE hf
  have hk_1 := q_keq hk_1
  refine q_getI E hH (ci := 4) rfl 2 (by decide) kF_X4_18 (fun _ _ _ => rfl) hk_1 dX4_yAt_1 ?_
  refine lv_iconst (v := 1) hx hb dX4_yAt_4 (by decide) ?_
  refine lv_icmp_lt (tgt := 17) hx hb dX4_yAt_5 (by decide) (fun cc_8 => ?_) (fun cc_8 => ?_)
  · replace hf := q_ifT cc_8 hf
    clear cc_8
    exact bX4_yAt_17 E hR hcc h Z M _ _ _ _ hf hH (lv_sub hl [] rfl)
  · replace hf := q_ifF cc_8 hf
    clear cc_8
    refine lv_aload_n hx hb dX4_yAt_8 rfl (lv_at hl 0 rfl) ?_
    refine q_getI E hH (ci := 4) rfl 2 (by decide) kF_X4_18 (fun _ _ _ => rfl) hk_1 dX4_yAt_9 ?_
    refine lv_bipush (v := 40) hx hb dX4_yAt_12 (by decide) ?_
    refine lv_icmp_le (tgt := 21) hx hb dX4_yAt_14 (by decide) (fun cc_7 => ?_) (fun cc_7 => ?_)
    · replace hf := q_ifT cc_7 hf
      clear cc_7
      refine lv_aload_n hx hb dX4_yAt_21 rfl (lv_at hl 0 rfl) ?_
      refine q_getR E hH (ci := 4) rfl 1 (by decide) kF_X4_15 (fun _ _ _ => rfl) hk_1 dX4_yAt_22 ?_
      obtain ⟨a_2, he_3, hf⟩ := q_biE hf
      rw [he_3]
      refine lv_iload_n hx hb dX4_yAt_25 rfl (lv_at hl 1 rfl) ?_
      refine lv_aload_n hx hb dX4_yAt_26 rfl (lv_at hl 0 rfl) ?_
      refine q_getI E hH (ci := 4) rfl 2 (by decide) kF_X4_18 (fun _ _ _ => rfl) hk_1 dX4_yAt_27 ?_
      obtain ⟨r_4, hw_5, hf⟩ := q_biE hf
      refine q_cS (As := [.int v1, .int (gI M h 2)]) (rest := [.ref a_2]) (st1 := [.int r_4, .ref a_2]) E hH (tJ9_floorMod_7cf53 l D cA z0 Z M v1 (gI M h 2) r_4 hw_5) mw_J9_floorMod_7cf53 mi_J9_floorMod_7cf53 kM_X4_22 hcc rfl rfl rfl hl.1 rfl rfl (Nat.le_of_ble_eq_true rfl) ⟨Nat.le_trans (by decide) hR.1, Nat.le_trans (by decide) hR.2⟩ dX4_yAt_30 (fun H locs hH => ?_)
      obtain ⟨hz_6, hf⟩ := q_gdE hf
      refine q_iaload E hH hz_6 dX4_yAt_33 ?_
      exact bX4_yAt_34 E hR hcc h (gI M a_2 r_4.toNatClampNeg) Z M _ _ _ _ hf hH (lv_sub hl [] rfl)
    · replace hf := q_ifF cc_7 hf
      clear cc_7
      exact bX4_yAt_17 E hR hcc h Z M _ _ _ _ hf hH (lv_sub hl [] rfl)
set_option maxRecDepth 100000 in
theorem tX4_yAt (l : Launch) (D : va_G) (cA : Nat → ClassId) (z0 : Nat) (h : Nat) (v1 : Int32) (Z : q_Z) (M : q_C) (r : Int32) (hf : fX4_yAt h v1 Z M = some r) : q_Ct l D cA z0 yX4_yAt cX4_yAt 2 (some .int) 1 22 [.ref h, .int v1] Z M (some (.int r)) Z M 0 0 := by
  (refine q_start (plainFor_of_name (by decide)) (Nat.le_of_ble_eq_true rfl) (fun p e s m below meth c H ls E hH hl => ?_); exact bX4_yAt_0 E ⟨Nat.le_refl _, Nat.le_refl _⟩ ⟨Nat.le_refl _, Nat.le_refl _⟩ h _ Z M H [] ls r hf hH hl)
def fX0_isOutside_b75 (h : Nat) (s0 : Int32) (Z : q_Z) (M : q_C) : Option (Int32) :=
  q_gd (decide (s0 = 0) || decide (s0 = 1)) <|
  some s0
set_option maxHeartbeats 4000000 in
set_option maxRecDepth 100000 in
theorem bX0_isOutside_75 {cells slots : Nat} (E : q_E p s m meth c cX0_isOutside 1 RX0 (some .boolean) "isOutside" D cA) (hR : 0 ≤ R.frames ∧ 0 ≤ R.locals) (hcc : cells ≤ R.cells ∧ slots ≤ R.slots) (h : Nat) (s0 : Int32) (Z : q_Z) (M : q_C) (H : Heap) (locs : List Loc) (ls : Array Slot) (r : Int32) (hf : fX0_isOutside_b75 h s0 Z M = some r) (hH : q_Hh D cA z0 s Z M H locs) (hl : lv_has ls 1 [])  : W p l e R s m args below meth c H locs cells slots (MQ below (q_Q D cA z0 (some (.int r)) Z M) args s cells slots (fun q => z0 ≤ q)) (F0 m 75 ls [.int s0]) := by
  have hx := E.1
  have hb := E.2.1
  have hown := E.2.2.2.1
  have hT := E.2.2.2.2.2.2.2.1
  unfold fX0_isOutside_b75 at hf
  obtain ⟨hz_2, hf⟩ := q_gdE hf
  cases hf
  exact q_zret E hH hz_2 dX0_isOutside_75
def fX0_isOutside_b70 (h : Nat) (Z : q_Z) (M : q_C) : Option (Int32) :=
  fX0_isOutside_b75 h (1 : Int32) Z M
set_option maxHeartbeats 4000000 in
set_option maxRecDepth 100000 in
theorem bX0_isOutside_70 {cells slots : Nat} (E : q_E p s m meth c cX0_isOutside 1 RX0 (some .boolean) "isOutside" D cA) (hR : 0 ≤ R.frames ∧ 0 ≤ R.locals) (hcc : cells ≤ R.cells ∧ slots ≤ R.slots) (h : Nat) (Z : q_Z) (M : q_C) (H : Heap) (locs : List Loc) (ls : Array Slot) (r : Int32) (hf : fX0_isOutside_b70 h Z M = some r) (hH : q_Hh D cA z0 s Z M H locs) (hl : lv_has ls 1 [])  : W p l e R s m args below meth c H locs cells slots (MQ below (q_Q D cA z0 (some (.int r)) Z M) args s cells slots (fun q => z0 ≤ q)) (F0 m 70 ls []) := by
  have hx := E.1
  have hb := E.2.1
  have hown := E.2.2.2.1
  have hT := E.2.2.2.2.2.2.2.1
  unfold fX0_isOutside_b70 at hf
  refine lv_iconst (v := 1) hx hb dX0_isOutside_70 (by decide) ?_
  refine lv_goto (tgt := 75) hx hb dX0_isOutside_71 (by decide) ?_
  exact bX0_isOutside_75 E hR hcc h (1 : Int32) Z M _ _ _ _ hf hH (lv_sub hl [] rfl)
def fX0_isOutside (h : Nat) (Z : q_Z) (M : q_C) : Option (Int32) :=
  q_gd (zK Z h == 10) <|
  if gJ M h 0 < (-100000 : Int64) then
    fX0_isOutside_b70 h Z M
  else
    if (100000 : Int64) < gJ M h 0 then
      fX0_isOutside_b70 h Z M
    else
      if gJ M h 1 < (-100000 : Int64) then
        fX0_isOutside_b70 h Z M
      else
        if (100000 : Int64) < gJ M h 1 then
          fX0_isOutside_b70 h Z M
        else
          if (10000 : Int64) ≤ ((gJ M h 0) * (gJ M h 0)) + ((gJ M h 1) * (gJ M h 1)) then
            fX0_isOutside_b75 h (0 : Int32) Z M
          else
            fX0_isOutside_b70 h Z M
set_option maxHeartbeats 4000000 in
set_option maxRecDepth 100000 in
theorem bX0_isOutside_0 {cells slots : Nat} (E : q_E p s m meth c cX0_isOutside 1 RX0 (some .boolean) "isOutside" D cA) (hR : 0 ≤ R.frames ∧ 0 ≤ R.locals) (hcc : cells ≤ R.cells ∧ slots ≤ R.slots) (h : Nat) (Z : q_Z) (M : q_C) (H : Heap) (locs : List Loc) (ls : Array Slot) (r : Int32) (hf : fX0_isOutside h Z M = some r) (hH : q_Hh D cA z0 s Z M H locs) (hl : lv_has ls 1 [(0, .ref h)])  : W p l e R s m args below meth c H locs cells slots (MQ below (q_Q D cA z0 (some (.int r)) Z M) args s cells slots (fun q => z0 ≤ q)) (F0 m 0 ls []) := by
  have hx := E.1
  have hb := E.2.1
  have hown := E.2.2.2.1
  have hT := E.2.2.2.2.2.2.2.1
  unfold fX0_isOutside at hf
  refine lv_aload_n hx hb dX0_isOutside_0 rfl (lv_at hl 0 rfl) ?_
  obtain ⟨hk_1, hf⟩ := q_gdE hf
  have hk_1 := q_keq hk_1
  refine q_getJ E hH (ci := 0) rfl 0 (by decide) kF_X0_9 (fun _ _ _ => rfl) hk_1 dX0_isOutside_1 ?_
  refine lv_ldc2 hx hb hown (hT.1 _ _ kK_X0_51) dX0_isOutside_4 ?_
  refine q_lcmp_lt (pc1 := 8) (tgt := 70) hx hb dX0_isOutside_7 rfl dX0_isOutside_8 (by decide) (fun cc_7 => ?_) (fun cc_7 => ?_)
  · replace hf := q_ifT cc_7 hf
    clear cc_7
    exact bX0_isOutside_70 E hR hcc h Z M _ _ _ _ hf hH (lv_sub hl [] rfl)
  · replace hf := q_ifF cc_7 hf
    clear cc_7
    refine lv_aload_n hx hb dX0_isOutside_11 rfl (lv_at hl 0 rfl) ?_
    refine q_getJ E hH (ci := 0) rfl 0 (by decide) kF_X0_9 (fun _ _ _ => rfl) hk_1 dX0_isOutside_12 ?_
    refine lv_ldc2 hx hb hown (hT.1 _ _ kK_X0_53) dX0_isOutside_15 ?_
    refine q_lcmp_gt (pc1 := 19) (tgt := 70) hx hb dX0_isOutside_18 rfl dX0_isOutside_19 (by decide) (fun cc_6 => ?_) (fun cc_6 => ?_)
    · replace hf := q_ifT cc_6 hf
      clear cc_6
      exact bX0_isOutside_70 E hR hcc h Z M _ _ _ _ hf hH (lv_sub hl [] rfl)
    · replace hf := q_ifF cc_6 hf
      clear cc_6
      refine lv_aload_n hx hb dX0_isOutside_22 rfl (lv_at hl 0 rfl) ?_
      refine q_getJ E hH (ci := 0) rfl 1 (by decide) kF_X0_15 (fun _ _ _ => rfl) hk_1 dX0_isOutside_23 ?_
      refine lv_ldc2 hx hb hown (hT.1 _ _ kK_X0_51) dX0_isOutside_26 ?_
      refine q_lcmp_lt (pc1 := 30) (tgt := 70) hx hb dX0_isOutside_29 rfl dX0_isOutside_30 (by decide) (fun cc_5 => ?_) (fun cc_5 => ?_)
      · replace hf := q_ifT cc_5 hf
        clear cc_5
        exact bX0_isOutside_70 E hR hcc h Z M _ _ _ _ hf hH (lv_sub hl [] rfl)
      · replace hf := q_ifF cc_5 hf
        clear cc_5
        refine lv_aload_n hx hb dX0_isOutside_33 rfl (lv_at hl 0 rfl) ?_
        refine q_getJ E hH (ci := 0) rfl 1 (by decide) kF_X0_15 (fun _ _ _ => rfl) hk_1 dX0_isOutside_34 ?_
        refine lv_ldc2 hx hb hown (hT.1 _ _ kK_X0_53) dX0_isOutside_37 ?_
        refine q_lcmp_gt (pc1 := 41) (tgt := 70) hx hb dX0_isOutside_40 rfl dX0_isOutside_41 (by decide) (fun cc_4 => ?_) (fun cc_4 => ?_)
        · replace hf := q_ifT cc_4 hf
          clear cc_4
          exact bX0_isOutside_70 E hR hcc h Z M _ _ _ _ hf hH (lv_sub hl [] rfl)
        · replace hf := q_ifF cc_4 hf
          clear cc_4
          refine lv_aload_n hx hb dX0_isOutside_44 rfl (lv_at hl 0 rfl) ?_
          refine q_getJ E hH (ci := 0) rfl 0 (by decide) kF_X0_9 (fun _ _ _ => rfl) hk_1 dX0_isOutside_45 ?_
          refine lv_aload_n hx hb dX0_isOutside_48 rfl (lv_at hl 0 rfl) ?_
          refine q_getJ E hH (ci := 0) rfl 0 (by decide) kF_X0_9 (fun _ _ _ => rfl) hk_1 dX0_isOutside_49 ?_
          refine lv_lmul hx hb dX0_isOutside_52 ?_
          refine lv_aload_n hx hb dX0_isOutside_53 rfl (lv_at hl 0 rfl) ?_
          refine q_getJ E hH (ci := 0) rfl 1 (by decide) kF_X0_15 (fun _ _ _ => rfl) hk_1 dX0_isOutside_54 ?_
          refine lv_aload_n hx hb dX0_isOutside_57 rfl (lv_at hl 0 rfl) ?_
          refine q_getJ E hH (ci := 0) rfl 1 (by decide) kF_X0_15 (fun _ _ _ => rfl) hk_1 dX0_isOutside_58 ?_
          refine lv_lmul hx hb dX0_isOutside_61 ?_
          refine lv_ladd hx hb dX0_isOutside_62 ?_
          refine lv_ldc2 hx hb hown (hT.1 _ _ kK_X0_55) dX0_isOutside_63 ?_
          refine q_lcmp_ge (pc1 := 67) (tgt := 74) hx hb dX0_isOutside_66 rfl dX0_isOutside_67 (by decide) (fun cc_3 => ?_) (fun cc_3 => ?_)
          · replace hf := q_ifT cc_3 hf
            clear cc_3
            refine lv_iconst (v := 0) hx hb dX0_isOutside_74 (by decide) ?_
            exact bX0_isOutside_75 E hR hcc h (0 : Int32) Z M _ _ _ _ hf hH (lv_sub hl [] rfl)
          · replace hf := q_ifF cc_3 hf
            clear cc_3
            exact bX0_isOutside_70 E hR hcc h Z M _ _ _ _ hf hH (lv_sub hl [] rfl)
set_option maxRecDepth 100000 in
theorem tX0_isOutside (l : Launch) (D : va_G) (cA : Nat → ClassId) (z0 : Nat) (h : Nat) (Z : q_Z) (M : q_C) (r : Int32) (hf : fX0_isOutside h Z M = some r) : q_Ct l D cA z0 yX0_isOutside cX0_isOutside 1 (some .boolean) 0 0 [.ref h] Z M (some (.int r)) Z M 0 0 := by
  (refine q_start (plainFor_of_name (by decide)) (Nat.le_of_ble_eq_true rfl) (fun p e s m below meth c H ls E hH hl => ?_); exact bX0_isOutside_0 E ⟨Nat.le_refl _, Nat.le_refl _⟩ ⟨Nat.le_refl _, Nat.le_refl _⟩ h Z M H [] ls r hf hH hl)
def fX0_begin (h : Nat) (v1 : Option Nat) (Z : q_Z) (M : q_C) : Option (q_C) :=
  Option.bind v1 fun a_1 =>
  q_gd (zK Z a_1 == 15) <|
  q_gd (zK Z h == 10) <|
  q_nm (sJ M h 0 ((gI M a_1 2).toInt64)) fun M_5 =>
  q_nm (sJ M_5 h 1 ((gI M_5 a_1 3).toInt64)) fun M_6 =>
  q_nm (sJ M_6 h 2 ((gI M_6 a_1 4).toInt64)) fun M_7 =>
  q_nm (sJ M_7 h 3 ((gI M_7 a_1 5).toInt64)) fun M_8 =>
  q_nm (sI M_8 h 4 (gI M_8 a_1 6)) fun M_9 =>
  Option.bind (fX0_isOutside h Z M_9) fun r_10 =>
  q_gd (decide (r_10 = 0) || decide (r_10 = 1)) <|
  q_nm (sI M_9 h 5 r_10) fun M_13 =>
  some M_13
set_option maxHeartbeats 4000000 in
set_option maxRecDepth 100000 in
theorem bX0_begin_0 {cells slots : Nat} (E : q_E p s m meth c cX0_begin 2 RX0 none "begin" D cA) (hR : 1 ≤ R.frames ∧ 20 ≤ R.locals) (hcc : cells ≤ R.cells ∧ slots ≤ R.slots) (h : Nat) (v1 : Option Nat) (Z : q_Z) (M : q_C) (H : Heap) (locs : List Loc) (ls : Array Slot) (M' : q_C) (hf : fX0_begin h v1 Z M = some M') (hH : q_Hh D cA z0 s Z M H locs) (hl : lv_has ls 2 [(0, .ref h), (1, va_rf v1)])  : W p l e R s m args below meth c H locs cells slots (MQ below (q_Q D cA z0 none Z M') args s cells slots (fun q => z0 ≤ q)) (F0 m 0 ls []) := by
  have hx := E.1
  have hb := E.2.1
  have hown := E.2.2.2.1
  have hT := E.2.2.2.2.2.2.2.1
  unfold fX0_begin at hf
  refine lv_aload_n hx hb dX0_begin_0 rfl (lv_at hl 0 rfl) ?_
  refine q_aload_n hx hb dX0_begin_1 rfl (lv_at hl 1 rfl) ?_
  obtain ⟨a_1, he_2, hf⟩ := q_biE hf
  subst he_2
  obtain ⟨hk_3, hf⟩ := q_gdE hf
  have hk_3 := q_keq hk_3
  refine q_getIN E hH (ci := 5) rfl 2 (by decide) kF_X0_32 (fun _ _ _ => rfl) hk_3 dX0_begin_2 ?_
  refine lv_i2l hx hb dX0_begin_5 rfl ?_
  obtain ⟨hk_4, hf⟩ := q_gdE hf
  have hk_4 := q_keq hk_4
  refine q_putJ E hH (ci := 0) rfl 0 (by decide) kF_X0_9 rfl (fun _ _ _ => rfl) (x := (gI M a_1 2).toInt64) hk_4 rfl rfl dX0_begin_6 hf (fun M_5 H locs hH hf => ?_)
  refine lv_aload_n hx hb dX0_begin_9 rfl (lv_at hl 0 rfl) ?_
  refine lv_aload_n hx hb dX0_begin_10 rfl (lv_at hl 1 rfl) ?_
  refine q_getIN E hH (ci := 5) rfl 3 (by decide) kF_X0_36 (fun _ _ _ => rfl) hk_3 dX0_begin_11 ?_
  refine lv_i2l hx hb dX0_begin_14 rfl ?_
  refine q_putJ E hH (ci := 0) rfl 1 (by decide) kF_X0_15 rfl (fun _ _ _ => rfl) (x := (gI M_5 a_1 3).toInt64) hk_4 rfl rfl dX0_begin_15 hf (fun M_6 H locs hH hf => ?_)
  refine lv_aload_n hx hb dX0_begin_18 rfl (lv_at hl 0 rfl) ?_
  refine lv_aload_n hx hb dX0_begin_19 rfl (lv_at hl 1 rfl) ?_
  refine q_getIN E hH (ci := 5) rfl 4 (by decide) kF_X0_38 (fun _ _ _ => rfl) hk_3 dX0_begin_20 ?_
  refine lv_i2l hx hb dX0_begin_23 rfl ?_
  refine q_putJ E hH (ci := 0) rfl 2 (by decide) kF_X0_18 rfl (fun _ _ _ => rfl) (x := (gI M_6 a_1 4).toInt64) hk_4 rfl rfl dX0_begin_24 hf (fun M_7 H locs hH hf => ?_)
  refine lv_aload_n hx hb dX0_begin_27 rfl (lv_at hl 0 rfl) ?_
  refine lv_aload_n hx hb dX0_begin_28 rfl (lv_at hl 1 rfl) ?_
  refine q_getIN E hH (ci := 5) rfl 5 (by decide) kF_X0_40 (fun _ _ _ => rfl) hk_3 dX0_begin_29 ?_
  refine lv_i2l hx hb dX0_begin_32 rfl ?_
  refine q_putJ E hH (ci := 0) rfl 3 (by decide) kF_X0_21 rfl (fun _ _ _ => rfl) (x := (gI M_7 a_1 5).toInt64) hk_4 rfl rfl dX0_begin_33 hf (fun M_8 H locs hH hf => ?_)
  refine lv_aload_n hx hb dX0_begin_36 rfl (lv_at hl 0 rfl) ?_
  refine lv_aload_n hx hb dX0_begin_37 rfl (lv_at hl 1 rfl) ?_
  refine q_getIN E hH (ci := 5) rfl 6 (by decide) kF_X0_42 (fun _ _ _ => rfl) hk_3 dX0_begin_38 ?_
  refine q_putI E hH (ci := 0) rfl 4 (by decide) kF_X0_24 rfl (fun _ _ _ => rfl) (x := gI M_8 a_1 6) hk_4 rfl rfl dX0_begin_41 hf (fun M_9 H locs hH hf => ?_)
  refine lv_aload_n hx hb dX0_begin_44 rfl (lv_at hl 0 rfl) ?_
  refine lv_aload_n hx hb dX0_begin_45 rfl (lv_at hl 0 rfl) ?_
  obtain ⟨r_10, hw_11, hf⟩ := q_biE hf
  refine q_cV (As := []) (rest := [.ref h]) (st1 := [.int r_10, .ref h]) E hH (tX0_isOutside l D cA z0 h Z M_9 r_10 hw_11) mw_X0_isOutside mi_X0_isOutside (ci := 0) rfl ms_X0_isOutside kM_X0_43 hk_4 hcc rfl rfl rfl hl.1 rfl rfl (Nat.le_of_ble_eq_true rfl) ⟨Nat.le_trans (by decide) hR.1, Nat.le_trans (by decide) hR.2⟩ dX0_begin_46 (fun H locs hH => ?_)
  obtain ⟨hz_12, hf⟩ := q_gdE hf
  refine q_putI E hH (ci := 0) rfl 5 (by decide) kF_X0_28 rfl (fun _ _ _ => rfl) (x := r_10) hk_4 (q_zb hz_12).1 (q_zb hz_12).2 dX0_begin_49 hf (fun M_13 H locs hH hf => ?_)
  cases hf
  exact q_vret E hH dX0_begin_52
set_option maxRecDepth 100000 in
theorem tX0_begin (l : Launch) (D : va_G) (cA : Nat → ClassId) (z0 : Nat) (h : Nat) (v1 : Option Nat) (Z : q_Z) (M : q_C) (M' : q_C) (hf : fX0_begin h v1 Z M = some M') : q_Ct l D cA z0 yX0_begin cX0_begin 2 none 1 20 [.ref h, va_rf v1] Z M none Z M' 0 0 := by
  cases v1 <;>
  (refine q_start (plainFor_of_name (by decide)) (Nat.le_of_ble_eq_true rfl) (fun p e s m below meth c H ls E hH hl => ?_); exact bX0_begin_0 E ⟨Nat.le_refl _, Nat.le_refl _⟩ ⟨Nat.le_refl _, Nat.le_refl _⟩ h _ Z M H [] ls M' hf hH hl)
def fX0_pull_b64 (h : Nat) (Z : q_Z) (M : q_C) : Option (q_C) :=
  some M
set_option maxHeartbeats 4000000 in
set_option maxRecDepth 100000 in
theorem bX0_pull_64 {cells slots : Nat} (E : q_E p s m meth c cX0_pull 10 RX0 none "pull" D cA) (hR : 1 ≤ R.frames ∧ 30 ≤ R.locals) (hcc : cells ≤ R.cells ∧ slots ≤ R.slots) (h : Nat) (Z : q_Z) (M : q_C) (H : Heap) (locs : List Loc) (ls : Array Slot) (M' : q_C) (hf : fX0_pull_b64 h Z M = some M') (hH : q_Hh D cA z0 s Z M H locs) (hl : lv_has ls 10 [])  : W p l e R s m args below meth c H locs cells slots (MQ below (q_Q D cA z0 none Z M') args s cells slots (fun q => z0 ≤ q)) (F0 m 64 ls []) := by
  have hx := E.1
  have hb := E.2.1
  have hown := E.2.2.2.1
  have hT := E.2.2.2.2.2.2.2.1
  unfold fX0_pull_b64 at hf
  cases hf
  exact q_vret E hH dX0_pull_64
def fX0_pull (h : Nat) (v1 : Int64) (v3 : Int64) (v5 : Int64) (v7 : Int32) (Z : q_Z) (M : q_C) : Option (q_C) :=
  Option.bind (fX6_length v3 v5) fun r_1 =>
  q_nm (((v3 * v3) + (v5 * v5)) * r_1) fun v8_3 =>
  if v8_3 = (0 : Int64) then
    fX0_pull_b64 h Z M
  else
    q_gd (zK Z h == 10) <|
    q_gd (!(decide (v8_3 = 0))) <|
    q_nm (sJ M h 2 ((gJ M h 2) + (v7.toInt64 * ((v1 * v3) / v8_3)))) fun M_7 =>
    q_gd (!(decide (v8_3 = 0))) <|
    q_nm (sJ M_7 h 3 ((gJ M_7 h 3) + (v7.toInt64 * ((v1 * v5) / v8_3)))) fun M_9 =>
    fX0_pull_b64 h Z M_9
set_option maxHeartbeats 4000000 in
set_option maxRecDepth 100000 in
theorem bX0_pull_0 {cells slots : Nat} (E : q_E p s m meth c cX0_pull 10 RX0 none "pull" D cA) (hR : 1 ≤ R.frames ∧ 30 ≤ R.locals) (hcc : cells ≤ R.cells ∧ slots ≤ R.slots) (h : Nat) (v1 : Int64) (v3 : Int64) (v5 : Int64) (v7 : Int32) (Z : q_Z) (M : q_C) (H : Heap) (locs : List Loc) (ls : Array Slot) (M' : q_C) (hf : fX0_pull h v1 v3 v5 v7 Z M = some M') (hH : q_Hh D cA z0 s Z M H locs) (hl : lv_has ls 10 [(0, .ref h), (1, .long v1), (3, .long v3), (5, .long v5), (7, .int v7)])  : W p l e R s m args below meth c H locs cells slots (MQ below (q_Q D cA z0 none Z M') args s cells slots (fun q => z0 ≤ q)) (F0 m 0 ls []) := by
  have hx := E.1
  have hb := E.2.1
  have hown := E.2.2.2.1
  have hT := E.2.2.2.2.2.2.2.1
  unfold fX0_pull at hf
  refine lv_lload_n hx hb dX0_pull_0 rfl (lv_at hl 2 rfl) ?_
  refine lv_lload_n hx hb dX0_pull_1 rfl (lv_at hl 2 rfl) ?_
  refine lv_lmul hx hb dX0_pull_2 ?_
  refine lv_lload hx hb dX0_pull_3 (lv_at hl 3 rfl) ?_
  refine lv_lload hx hb dX0_pull_5 (lv_at hl 3 rfl) ?_
  refine lv_lmul hx hb dX0_pull_7 ?_
  refine lv_ladd hx hb dX0_pull_8 ?_
  refine lv_lload_n hx hb dX0_pull_9 rfl (lv_at hl 2 rfl) ?_
  refine lv_lload hx hb dX0_pull_10 (lv_at hl 3 rfl) ?_
  obtain ⟨r_1, hw_2, hf⟩ := q_biE hf
  refine q_cSN (As := [.long v3, .long v5]) (rest := [.long ((v3 * v3) + (v5 * v5))]) (st1 := [.long r_1, .long ((v3 * v3) + (v5 * v5))]) E hH (tX6_length l D cA z0 Z M v3 v5 r_1 hw_2) mw_X6_length mi_X6_length kM_X0_82 hcc rfl rfl rfl hl.1 rfl rfl (Nat.le_of_ble_eq_true rfl) ⟨Nat.le_trans (by decide) hR.1, Nat.le_trans (by decide) hR.2⟩ dX0_pull_12 (fun H locs hH => ?_)
  refine lv_lmul hx hb dX0_pull_15 ?_
  refine lv_topl (fun v8_3 hn_4 => ?_)
  replace hf := q_nmE hn_4 hf
  clear hn_4
  refine lv_lstore (lv' := [(8, .long v8_3), (0, .ref h), (1, .long v1), (3, .long v3), (5, .long v5), (7, .int v7)]) hx hb dX0_pull_16 hl (by decide) rfl (fun ls hl => ?_)
  refine lv_lload hx hb dX0_pull_18 (lv_at hl 0 rfl) ?_
  refine lv_lconst (v := 0) hx hb dX0_pull_20 (by decide) ?_
  refine q_lcmp_eq (pc1 := 22) (tgt := 64) hx hb dX0_pull_21 rfl dX0_pull_22 (by decide) (fun cc_10 => ?_) (fun cc_10 => ?_)
  · replace hf := q_ifT cc_10 hf
    clear cc_10
    exact bX0_pull_64 E hR hcc h Z M _ _ _ _ hf hH (lv_sub hl [] rfl)
  · replace hf := q_ifF cc_10 hf
    clear cc_10
    refine lv_aload_n hx hb dX0_pull_25 rfl (lv_at hl 1 rfl) ?_
    refine lv_dup hx hb dX0_pull_26 rfl ?_
    obtain ⟨hk_5, hf⟩ := q_gdE hf
    have hk_5 := q_keq hk_5
    refine q_getJ E hH (ci := 0) rfl 2 (by decide) kF_X0_18 (fun _ _ _ => rfl) hk_5 dX0_pull_27 ?_
    refine lv_iload hx hb dX0_pull_30 (lv_at hl 5 rfl) ?_
    refine lv_i2l hx hb dX0_pull_32 rfl ?_
    refine lv_lload_n hx hb dX0_pull_33 rfl (lv_at hl 2 rfl) ?_
    refine lv_lload_n hx hb dX0_pull_34 rfl (lv_at hl 3 rfl) ?_
    refine lv_lmul hx hb dX0_pull_35 ?_
    refine lv_lload hx hb dX0_pull_36 (lv_at hl 0 rfl) ?_
    obtain ⟨hz_6, hf⟩ := q_gdE hf
    refine lv_ldiv hx hb dX0_pull_38 (by simpa using hz_6) ?_
    refine lv_lmul hx hb dX0_pull_39 ?_
    refine lv_ladd hx hb dX0_pull_40 ?_
    refine q_putJ E hH (ci := 0) rfl 2 (by decide) kF_X0_18 rfl (fun _ _ _ => rfl) (x := (gJ M h 2) + (v7.toInt64 * ((v1 * v3) / v8_3))) hk_5 rfl rfl dX0_pull_41 hf (fun M_7 H locs hH hf => ?_)
    refine lv_aload_n hx hb dX0_pull_44 rfl (lv_at hl 1 rfl) ?_
    refine lv_dup hx hb dX0_pull_45 rfl ?_
    refine q_getJ E hH (ci := 0) rfl 3 (by decide) kF_X0_21 (fun _ _ _ => rfl) hk_5 dX0_pull_46 ?_
    refine lv_iload hx hb dX0_pull_49 (lv_at hl 5 rfl) ?_
    refine lv_i2l hx hb dX0_pull_51 rfl ?_
    refine lv_lload_n hx hb dX0_pull_52 rfl (lv_at hl 2 rfl) ?_
    refine lv_lload hx hb dX0_pull_53 (lv_at hl 4 rfl) ?_
    refine lv_lmul hx hb dX0_pull_55 ?_
    refine lv_lload hx hb dX0_pull_56 (lv_at hl 0 rfl) ?_
    obtain ⟨hz_8, hf⟩ := q_gdE hf
    refine lv_ldiv hx hb dX0_pull_58 (by simpa using hz_8) ?_
    refine lv_lmul hx hb dX0_pull_59 ?_
    refine lv_ladd hx hb dX0_pull_60 ?_
    refine q_putJ E hH (ci := 0) rfl 3 (by decide) kF_X0_21 rfl (fun _ _ _ => rfl) (x := (gJ M_7 h 3) + (v7.toInt64 * ((v1 * v5) / v8_3))) hk_5 rfl rfl dX0_pull_61 hf (fun M_9 H locs hH hf => ?_)
    exact bX0_pull_64 E hR hcc h Z M_9 _ _ _ _ hf hH (lv_sub hl [] rfl)
set_option maxRecDepth 100000 in
theorem tX0_pull (l : Launch) (D : va_G) (cA : Nat → ClassId) (z0 : Nat) (h : Nat) (v1 : Int64) (v3 : Int64) (v5 : Int64) (v7 : Int32) (Z : q_Z) (M : q_C) (M' : q_C) (hf : fX0_pull h v1 v3 v5 v7 Z M = some M') : q_Ct l D cA z0 yX0_pull cX0_pull 10 none 1 30 [.ref h, .long v1, .long v3, .long v5, .int v7] Z M none Z M' 0 0 := by
  (refine q_start (plainFor_of_name (by decide)) (Nat.le_of_ble_eq_true rfl) (fun p e s m below meth c H ls E hH hl => ?_); exact bX0_pull_0 E ⟨Nat.le_refl _, Nat.le_refl _⟩ ⟨Nat.le_refl _, Nat.le_refl _⟩ h _ _ _ _ Z M H [] ls M' hf hH hl)
def fX0_pullAll_b71 (h : Nat) (Z : q_Z) (M : q_C) : Option (q_C) :=
  some M
set_option maxHeartbeats 4000000 in
set_option maxRecDepth 100000 in
theorem bX0_pullAll_71 {cells slots : Nat} (E : q_E p s m meth c cX0_pullAll 3 RX0 none "pullAll" D cA) (hR : 2 ≤ R.frames ∧ 59 ≤ R.locals) (hcc : cells ≤ R.cells ∧ slots ≤ R.slots) (h : Nat) (Z : q_Z) (M : q_C) (H : Heap) (locs : List Loc) (ls : Array Slot) (M' : q_C) (hf : fX0_pullAll_b71 h Z M = some M') (hH : q_Hh D cA z0 s Z M H locs) (hl : lv_has ls 3 [])  : W p l e R s m args below meth c H locs cells slots (MQ below (q_Q D cA z0 none Z M') args s cells slots (fun q => z0 ≤ q)) (F0 m 71 ls []) := by
  have hx := E.1
  have hb := E.2.1
  have hown := E.2.2.2.1
  have hT := E.2.2.2.2.2.2.2.1
  unfold fX0_pullAll_b71 at hf
  cases hf
  exact q_vret E hH dX0_pullAll_71
def fX0_pullAll (h : Nat) (v1 : Option Nat) (v2 : Int32) (Z : q_Z) (M : q_C) : Option (q_C) :=
  Option.bind v1 fun a_1 =>
  q_gd (zK Z a_1 == 13) <|
  q_gd (zK Z h == 10) <|
  Option.bind (fX0_pull h (gJ M a_1 2) (-(gJ M h 0)) (-(gJ M h 1)) v2 Z M) fun M_6 =>
  if gJ M_6 a_1 3 = (0 : Int64) then
    fX0_pullAll_b71 h Z M_6
  else
    Option.bind (gR M_6 a_1 1) fun a_7 =>
    q_gd (zK Z a_7 == 14) <|
    Option.bind (fX4_xAt a_7 (gI M_6 h 4) Z M_6) fun r_10 =>
    Option.bind (gR M_6 a_1 1) fun a_12 =>
    q_gd (zK Z a_12 == 14) <|
    Option.bind (fX4_yAt a_12 (gI M_6 h 4) Z M_6) fun r_15 =>
    Option.bind (fX0_pull h (gJ M_6 a_1 3) (r_10.toInt64 - (gJ M_6 h 0)) (r_15.toInt64 - (gJ M_6 h 1)) v2 Z M_6) fun M_18 =>
    fX0_pullAll_b71 h Z M_18
set_option maxHeartbeats 4000000 in
set_option maxRecDepth 100000 in
theorem bX0_pullAll_0 {cells slots : Nat} (E : q_E p s m meth c cX0_pullAll 3 RX0 none "pullAll" D cA) (hR : 2 ≤ R.frames ∧ 59 ≤ R.locals) (hcc : cells ≤ R.cells ∧ slots ≤ R.slots) (h : Nat) (v1 : Option Nat) (v2 : Int32) (Z : q_Z) (M : q_C) (H : Heap) (locs : List Loc) (ls : Array Slot) (M' : q_C) (hf : fX0_pullAll h v1 v2 Z M = some M') (hH : q_Hh D cA z0 s Z M H locs) (hl : lv_has ls 3 [(0, .ref h), (1, va_rf v1), (2, .int v2)])  : W p l e R s m args below meth c H locs cells slots (MQ below (q_Q D cA z0 none Z M') args s cells slots (fun q => z0 ≤ q)) (F0 m 0 ls []) := by
  have hx := E.1
  have hb := E.2.1
  have hown := E.2.2.2.1
  have hT := E.2.2.2.2.2.2.2.1
  unfold fX0_pullAll at hf
  refine lv_aload_n hx hb dX0_pullAll_0 rfl (lv_at hl 0 rfl) ?_
  refine q_aload_n hx hb dX0_pullAll_1 rfl (lv_at hl 1 rfl) ?_
  obtain ⟨a_1, he_2, hf⟩ := q_biE hf
  subst he_2
  obtain ⟨hk_3, hf⟩ := q_gdE hf
  have hk_3 := q_keq hk_3
  refine q_getJN E hH (ci := 3) rfl 2 (by decide) kF_X0_57 (fun _ _ _ => rfl) hk_3 dX0_pullAll_2 ?_
  refine lv_aload_n hx hb dX0_pullAll_5 rfl (lv_at hl 0 rfl) ?_
  obtain ⟨hk_4, hf⟩ := q_gdE hf
  have hk_4 := q_keq hk_4
  refine q_getJ E hH (ci := 0) rfl 0 (by decide) kF_X0_9 (fun _ _ _ => rfl) hk_4 dX0_pullAll_6 ?_
  refine lv_lneg hx hb dX0_pullAll_9 ?_
  refine lv_aload_n hx hb dX0_pullAll_10 rfl (lv_at hl 0 rfl) ?_
  refine q_getJ E hH (ci := 0) rfl 1 (by decide) kF_X0_15 (fun _ _ _ => rfl) hk_4 dX0_pullAll_11 ?_
  refine lv_lneg hx hb dX0_pullAll_14 ?_
  refine lv_iload_n hx hb dX0_pullAll_15 rfl (lv_at hl 2 rfl) ?_
  obtain ⟨M_6, hw_5, hf⟩ := q_biE hf
  refine q_cV (As := [.long (gJ M a_1 2), .long (-(gJ M h 0)), .long (-(gJ M h 1)), .int v2]) (rest := []) (st1 := []) E hH (tX0_pull l D cA z0 h (gJ M a_1 2) (-(gJ M h 0)) (-(gJ M h 1)) v2 Z M M_6 hw_5) mw_X0_pull mi_X0_pull (ci := 0) rfl ms_X0_pull kM_X0_62 hk_4 hcc rfl rfl rfl hl.1 rfl rfl (Nat.le_of_ble_eq_true rfl) ⟨Nat.le_trans (by decide) hR.1, Nat.le_trans (by decide) hR.2⟩ dX0_pullAll_16 (fun H locs hH => ?_)
  refine lv_aload_n hx hb dX0_pullAll_19 rfl (lv_at hl 1 rfl) ?_
  refine q_getJN E hH (ci := 3) rfl 3 (by decide) kF_X0_66 (fun _ _ _ => rfl) hk_3 dX0_pullAll_20 ?_
  refine lv_lconst (v := 0) hx hb dX0_pullAll_23 (by decide) ?_
  refine q_lcmp_eq (pc1 := 25) (tgt := 71) hx hb dX0_pullAll_24 rfl dX0_pullAll_25 (by decide) (fun cc_19 => ?_) (fun cc_19 => ?_)
  · replace hf := q_ifT cc_19 hf
    clear cc_19
    exact bX0_pullAll_71 E hR hcc h Z M_6 _ _ _ _ hf hH (lv_sub hl [] rfl)
  · replace hf := q_ifF cc_19 hf
    clear cc_19
    refine lv_aload_n hx hb dX0_pullAll_28 rfl (lv_at hl 0 rfl) ?_
    refine lv_aload_n hx hb dX0_pullAll_29 rfl (lv_at hl 1 rfl) ?_
    refine q_getJN E hH (ci := 3) rfl 3 (by decide) kF_X0_66 (fun _ _ _ => rfl) hk_3 dX0_pullAll_30 ?_
    refine lv_aload_n hx hb dX0_pullAll_33 rfl (lv_at hl 1 rfl) ?_
    refine q_getRN E hH (ci := 3) rfl 1 (by decide) kF_X0_69 (fun _ _ _ => rfl) hk_3 dX0_pullAll_34 ?_
    obtain ⟨a_7, he_8, hf⟩ := q_biE hf
    rw [he_8]
    refine lv_aload_n hx hb dX0_pullAll_37 rfl (lv_at hl 0 rfl) ?_
    refine q_getI E hH (ci := 0) rfl 4 (by decide) kF_X0_24 (fun _ _ _ => rfl) hk_4 dX0_pullAll_38 ?_
    obtain ⟨hk_9, hf⟩ := q_gdE hf
    have hk_9 := q_keq hk_9
    obtain ⟨r_10, hw_11, hf⟩ := q_biE hf
    refine q_cV (As := [.int (gI M_6 h 4)]) (rest := [.long (gJ M_6 a_1 3), .ref h]) (st1 := [.int r_10, .long (gJ M_6 a_1 3), .ref h]) E hH (tX4_xAt l D cA z0 a_7 (gI M_6 h 4) Z M_6 r_10 hw_11) mw_X4_xAt mi_X4_xAt (ci := 4) rfl ms_X4_xAt kM_X0_73 hk_9 hcc rfl rfl rfl hl.1 rfl rfl (Nat.le_of_ble_eq_true rfl) ⟨Nat.le_trans (by decide) hR.1, Nat.le_trans (by decide) hR.2⟩ dX0_pullAll_41 (fun H locs hH => ?_)
    refine lv_i2l hx hb dX0_pullAll_44 rfl ?_
    refine lv_aload_n hx hb dX0_pullAll_45 rfl (lv_at hl 0 rfl) ?_
    refine q_getJ E hH (ci := 0) rfl 0 (by decide) kF_X0_9 (fun _ _ _ => rfl) hk_4 dX0_pullAll_46 ?_
    refine lv_lsub hx hb dX0_pullAll_49 ?_
    refine lv_aload_n hx hb dX0_pullAll_50 rfl (lv_at hl 1 rfl) ?_
    refine q_getRN E hH (ci := 3) rfl 1 (by decide) kF_X0_69 (fun _ _ _ => rfl) hk_3 dX0_pullAll_51 ?_
    obtain ⟨a_12, he_13, hf⟩ := q_biE hf
    rw [he_13]
    refine lv_aload_n hx hb dX0_pullAll_54 rfl (lv_at hl 0 rfl) ?_
    refine q_getI E hH (ci := 0) rfl 4 (by decide) kF_X0_24 (fun _ _ _ => rfl) hk_4 dX0_pullAll_55 ?_
    obtain ⟨hk_14, hf⟩ := q_gdE hf
    have hk_14 := q_keq hk_14
    obtain ⟨r_15, hw_16, hf⟩ := q_biE hf
    refine q_cV (As := [.int (gI M_6 h 4)]) (rest := [.long (r_10.toInt64 - (gJ M_6 h 0)), .long (gJ M_6 a_1 3), .ref h]) (st1 := [.int r_15, .long (r_10.toInt64 - (gJ M_6 h 0)), .long (gJ M_6 a_1 3), .ref h]) E hH (tX4_yAt l D cA z0 a_12 (gI M_6 h 4) Z M_6 r_15 hw_16) mw_X4_yAt mi_X4_yAt (ci := 4) rfl ms_X4_yAt kM_X0_79 hk_14 hcc rfl rfl rfl hl.1 rfl rfl (Nat.le_of_ble_eq_true rfl) ⟨Nat.le_trans (by decide) hR.1, Nat.le_trans (by decide) hR.2⟩ dX0_pullAll_58 (fun H locs hH => ?_)
    refine lv_i2l hx hb dX0_pullAll_61 rfl ?_
    refine lv_aload_n hx hb dX0_pullAll_62 rfl (lv_at hl 0 rfl) ?_
    refine q_getJ E hH (ci := 0) rfl 1 (by decide) kF_X0_15 (fun _ _ _ => rfl) hk_4 dX0_pullAll_63 ?_
    refine lv_lsub hx hb dX0_pullAll_66 ?_
    refine lv_iload_n hx hb dX0_pullAll_67 rfl (lv_at hl 2 rfl) ?_
    obtain ⟨M_18, hw_17, hf⟩ := q_biE hf
    refine q_cV (As := [.long (gJ M_6 a_1 3), .long (r_10.toInt64 - (gJ M_6 h 0)), .long (r_15.toInt64 - (gJ M_6 h 1)), .int v2]) (rest := []) (st1 := []) E hH (tX0_pull l D cA z0 h (gJ M_6 a_1 3) (r_10.toInt64 - (gJ M_6 h 0)) (r_15.toInt64 - (gJ M_6 h 1)) v2 Z M_6 M_18 hw_17) mw_X0_pull mi_X0_pull (ci := 0) rfl ms_X0_pull kM_X0_62 hk_4 hcc rfl rfl rfl hl.1 rfl rfl (Nat.le_of_ble_eq_true rfl) ⟨Nat.le_trans (by decide) hR.1, Nat.le_trans (by decide) hR.2⟩ dX0_pullAll_68 (fun H locs hH => ?_)
    exact bX0_pullAll_71 E hR hcc h Z M_18 _ _ _ _ hf hH (lv_sub hl [] rfl)
set_option maxRecDepth 100000 in
theorem tX0_pullAll (l : Launch) (D : va_G) (cA : Nat → ClassId) (z0 : Nat) (h : Nat) (v1 : Option Nat) (v2 : Int32) (Z : q_Z) (M : q_C) (M' : q_C) (hf : fX0_pullAll h v1 v2 Z M = some M') : q_Ct l D cA z0 yX0_pullAll cX0_pullAll 3 none 2 59 [.ref h, va_rf v1, .int v2] Z M none Z M' 0 0 := by
  cases v1 <;>
  (refine q_start (plainFor_of_name (by decide)) (Nat.le_of_ble_eq_true rfl) (fun p e s m below meth c H ls E hH hl => ?_); exact bX0_pullAll_0 E ⟨Nat.le_refl _, Nat.le_refl _⟩ ⟨Nat.le_refl _, Nat.le_refl _⟩ h _ _ Z M H [] ls M' hf hH hl)
def fX0_go_b74 (h : Nat) (v1 : Option Nat) (v2 : Int32) (v3 : Int32) (Z : q_Z) (M : q_C) : Option ((Int32 × q_C) ⊕ q_C) :=
  q_nm (v3 + (1 : Int32)) fun v3_12 =>
  some (Sum.inl (v3_12, M))
set_option maxHeartbeats 4000000 in
set_option maxRecDepth 100000 in
theorem bX0_go_74 {cells slots : Nat} {Q : State → Prop} (E : q_E p s m meth c cX0_go 4 RX0 none "go" D cA) (hR : 3 ≤ R.frames ∧ 81 ≤ R.locals) (hcc : cells ≤ R.cells ∧ slots ≤ R.slots) (h : Nat) (v1 : Option Nat) (v2 : Int32) (v3 : Int32) (Z : q_Z) (M : q_C) (H : Heap) (locs : List Loc) (ls : Array Slot) (o : (Int32 × q_C) ⊕ q_C) (hf : fX0_go_b74 h v1 v2 v3 Z M = some o) (hH : q_Hh D cA z0 s Z M H locs) (hl : lv_has ls 4 [(0, .ref h), (1, va_rf v1), (2, .int v2), (3, .int v3)]) (kb : ∀ (w3 : Int32) (M1 : q_C) (H : Heap) (locs : List Loc) (ls : Array Slot), Sum.inl (w3, M1) = o → q_Hh D cA z0 s Z M1 H locs → lv_has ls 4 [(0, .ref h), (1, va_rf v1), (2, .int v2), (3, .int w3)] → W p l e R s m args below meth c H locs cells slots Q (F0 m 5 ls [])) (kx0 : ∀ (M1 : q_C) (H : Heap) (locs : List Loc) (ls : Array Slot), Sum.inr M1 = o → q_Hh D cA z0 s Z M1 H locs → lv_has ls 4 [(0, .ref h), (1, va_rf v1), (2, .int v2)] → W p l e R s m args below meth c H locs cells slots Q (F0 m 80 ls [])) : W p l e R s m args below meth c H locs cells slots Q (F0 m 74 ls []) := by
  have hx := E.1
  have hb := E.2.1
  have hown := E.2.2.2.1
  have hT := E.2.2.2.2.2.2.2.1
  unfold fX0_go_b74 at hf
  obtain ⟨v3_12, hn_13⟩ : ∃ y : Int32, y = v3 + (1 : Int32) := ⟨_, rfl⟩
  replace hf := q_nmE hn_13 hf
  refine lv_iinc (v := v3_12) (lv' := [(3, .int v3_12), (0, .ref h), (1, va_rf v1), (2, .int v2)]) hx hb dX0_go_74 hl (k := 3) rfl (by rw [hn_13]; rfl) (by decide) rfl (fun ls hl => ?_)
  clear hn_13
  refine lv_goto (tgt := 5) hx hb dX0_go_77 (by decide) ?_
  cases hf
  exact kb v3_12 M _ _ _ rfl hH (lv_sub hl [1, 2, 3, 0] rfl)
def fX0_go_L5 (h : Nat) (v1 : Option Nat) (v2 : Int32) (v3 : Int32) (Z : q_Z) (M : q_C) : Option ((Int32 × q_C) ⊕ q_C) :=
  if v2 ≤ v3 then
    some (Sum.inr M)
  else
    q_gd (zK Z h == 10) <|
    if gI M h 5 = 0 then
      q_nm (sJ M h 0 ((gJ M h 0) + (gJ M h 2))) fun M_5 =>
      q_nm (sJ M_5 h 1 ((gJ M_5 h 1) + (gJ M_5 h 3))) fun M_6 =>
      q_nm (sI M_6 h 4 ((gI M_6 h 4) + (1 : Int32))) fun M_7 =>
      Option.bind (fX0_isOutside h Z M_7) fun r_8 =>
      q_gd (decide (r_8 = 0) || decide (r_8 = 1)) <|
      q_nm (sI M_7 h 5 r_8) fun M_11 =>
      if gI M_11 h 5 = 0 then
        Option.bind (fX0_pullAll h v1 (1 : Int32) Z M_11) fun M_15 =>
        fX0_go_b74 h v1 v2 v3 Z M_15
      else
        fX0_go_b74 h v1 v2 v3 Z M_11
    else
      some (Sum.inr M)
set_option maxHeartbeats 4000000 in
set_option maxRecDepth 100000 in
theorem lX0_go_5 {cells slots : Nat} {Q : State → Prop} (E : q_E p s m meth c cX0_go 4 RX0 none "go" D cA) (hR : 3 ≤ R.frames ∧ 81 ≤ R.locals) (hcc : cells ≤ R.cells ∧ slots ≤ R.slots)  (h : Nat) (v1 : Option Nat) (v2 : Int32) (Z : q_Z) : ∀ (n : Nat) (v3 : Int32) (M : q_C) (H : Heap) (locs : List Loc) (ls : Array Slot) (r : q_C), q_it (fun x => fX0_go_L5 h v1 v2 x.1 Z x.2) n (v3, M) = some r → q_Hh D cA z0 s Z M H locs → lv_has ls 4 [(0, .ref h), (1, va_rf v1), (2, .int v2), (3, .int v3)] → (kx0 : ∀ (M1 : q_C) (H : Heap) (locs : List Loc) (ls : Array Slot), M1 = r → q_Hh D cA z0 s Z M1 H locs → lv_has ls 4 [(0, .ref h), (1, va_rf v1), (2, .int v2)] → W p l e R s m args below meth c H locs cells slots Q (F0 m 80 ls [])) → W p l e R s m args below meth c H locs cells slots Q (F0 m 5 ls []) := by
  have hx := E.1
  have hb := E.2.1
  have hown := E.2.2.2.1
  have hT := E.2.2.2.2.2.2.2.1
  intro n
  induction n with
  | zero =>
    intro v3 M H locs ls r hf
    cases hf
  | succ n ih =>
    intro v3 M H locs ls r hf hH hl ky0
    obtain ⟨n1, o, hn, hf, ho⟩ := q_itE hf
    cases hn
    have hf : fX0_go_L5 h v1 v2 v3 Z M = some o := hf
    have kb : ∀ (w3 : Int32) (M1 : q_C) (H : Heap) (locs : List Loc) (ls : Array Slot), Sum.inl (w3, M1) = o → q_Hh D cA z0 s Z M1 H locs → lv_has ls 4 [(0, .ref h), (1, va_rf v1), (2, .int v2), (3, .int w3)] → W p l e R s m args below meth c H locs cells slots Q (F0 m 5 ls []) := by
      intro w3 M1 H locs ls e hH hl
      subst e
      exact ih w3 M1 H locs ls r ho hH hl ky0
    have kx0 : ∀ (M1 : q_C) (H : Heap) (locs : List Loc) (ls : Array Slot), Sum.inr M1 = o → q_Hh D cA z0 s Z M1 H locs → lv_has ls 4 [(0, .ref h), (1, va_rf v1), (2, .int v2)] → W p l e R s m args below meth c H locs cells slots Q (F0 m 80 ls []) := by
      intro M1 H locs ls e hH hl
      subst e
      exact ky0 M1 H locs ls ho hH hl
    unfold fX0_go_L5 at hf
    refine lv_iload_n hx hb dX0_go_5 rfl (lv_at hl 3 rfl) ?_
    refine lv_iload_n hx hb dX0_go_6 rfl (lv_at hl 2 rfl) ?_
    refine lv_icmp_ge (tgt := 80) hx hb dX0_go_7 (by decide) (fun cc_18 => ?_) (fun cc_18 => ?_)
    · replace hf := q_ifT cc_18 hf
      clear cc_18
      cases hf
      exact kx0 M _ _ _ rfl hH (lv_sub hl [0, 1, 2] rfl)
    · replace hf := q_ifF cc_18 hf
      clear cc_18
      refine lv_aload_n hx hb dX0_go_10 rfl (lv_at hl 0 rfl) ?_
      obtain ⟨hk_4, hf⟩ := q_gdE hf
      have hk_4 := q_keq hk_4
      refine q_getI E hH (ci := 0) rfl 5 (by decide) kF_X0_28 (fun _ _ _ => rfl) hk_4 dX0_go_11 ?_
      refine lv_if_ne (tgt := 80) hx hb dX0_go_14 (by decide) (fun cc_17 => ?_) (fun cc_17 => ?_)
      · replace hf := q_ifF cc_17 hf
        clear cc_17
        cases hf
        exact kx0 M _ _ _ rfl hH (lv_sub hl [0, 1, 2] rfl)
      · replace hf := q_ifT cc_17 hf
        clear cc_17
        refine lv_aload_n hx hb dX0_go_17 rfl (lv_at hl 0 rfl) ?_
        refine lv_dup hx hb dX0_go_18 rfl ?_
        refine q_getJ E hH (ci := 0) rfl 0 (by decide) kF_X0_9 (fun _ _ _ => rfl) hk_4 dX0_go_19 ?_
        refine lv_aload_n hx hb dX0_go_22 rfl (lv_at hl 0 rfl) ?_
        refine q_getJ E hH (ci := 0) rfl 2 (by decide) kF_X0_18 (fun _ _ _ => rfl) hk_4 dX0_go_23 ?_
        refine lv_ladd hx hb dX0_go_26 ?_
        refine q_putJ E hH (ci := 0) rfl 0 (by decide) kF_X0_9 rfl (fun _ _ _ => rfl) (x := (gJ M h 0) + (gJ M h 2)) hk_4 rfl rfl dX0_go_27 hf (fun M_5 H locs hH hf => ?_)
        refine lv_aload_n hx hb dX0_go_30 rfl (lv_at hl 0 rfl) ?_
        refine lv_dup hx hb dX0_go_31 rfl ?_
        refine q_getJ E hH (ci := 0) rfl 1 (by decide) kF_X0_15 (fun _ _ _ => rfl) hk_4 dX0_go_32 ?_
        refine lv_aload_n hx hb dX0_go_35 rfl (lv_at hl 0 rfl) ?_
        refine q_getJ E hH (ci := 0) rfl 3 (by decide) kF_X0_21 (fun _ _ _ => rfl) hk_4 dX0_go_36 ?_
        refine lv_ladd hx hb dX0_go_39 ?_
        refine q_putJ E hH (ci := 0) rfl 1 (by decide) kF_X0_15 rfl (fun _ _ _ => rfl) (x := (gJ M_5 h 1) + (gJ M_5 h 3)) hk_4 rfl rfl dX0_go_40 hf (fun M_6 H locs hH hf => ?_)
        refine lv_aload_n hx hb dX0_go_43 rfl (lv_at hl 0 rfl) ?_
        refine lv_dup hx hb dX0_go_44 rfl ?_
        refine q_getI E hH (ci := 0) rfl 4 (by decide) kF_X0_24 (fun _ _ _ => rfl) hk_4 dX0_go_45 ?_
        refine lv_iconst (v := 1) hx hb dX0_go_48 (by decide) ?_
        refine lv_iadd hx hb dX0_go_49 ?_
        refine q_putI E hH (ci := 0) rfl 4 (by decide) kF_X0_24 rfl (fun _ _ _ => rfl) (x := (gI M_6 h 4) + (1 : Int32)) hk_4 rfl rfl dX0_go_50 hf (fun M_7 H locs hH hf => ?_)
        refine lv_aload_n hx hb dX0_go_53 rfl (lv_at hl 0 rfl) ?_
        refine lv_aload_n hx hb dX0_go_54 rfl (lv_at hl 0 rfl) ?_
        obtain ⟨r_8, hw_9, hf⟩ := q_biE hf
        refine q_cV (As := []) (rest := [.ref h]) (st1 := [.int r_8, .ref h]) E hH (tX0_isOutside l D cA z0 h Z M_7 r_8 hw_9) mw_X0_isOutside mi_X0_isOutside (ci := 0) rfl ms_X0_isOutside kM_X0_43 hk_4 hcc rfl rfl rfl hl.1 rfl rfl (Nat.le_of_ble_eq_true rfl) ⟨Nat.le_trans (by decide) hR.1, Nat.le_trans (by decide) hR.2⟩ dX0_go_55 (fun H locs hH => ?_)
        obtain ⟨hz_10, hf⟩ := q_gdE hf
        refine q_putI E hH (ci := 0) rfl 5 (by decide) kF_X0_28 rfl (fun _ _ _ => rfl) (x := r_8) hk_4 (q_zb hz_10).1 (q_zb hz_10).2 dX0_go_58 hf (fun M_11 H locs hH hf => ?_)
        refine lv_aload_n hx hb dX0_go_61 rfl (lv_at hl 0 rfl) ?_
        refine q_getI E hH (ci := 0) rfl 5 (by decide) kF_X0_28 (fun _ _ _ => rfl) hk_4 dX0_go_62 ?_
        refine lv_if_ne (tgt := 74) hx hb dX0_go_65 (by decide) (fun cc_16 => ?_) (fun cc_16 => ?_)
        · replace hf := q_ifF cc_16 hf
          clear cc_16
          exact bX0_go_74 E hR hcc h v1 v2 v3 Z M_11 _ _ _ _ hf hH (lv_sub hl [0, 1, 2, 3] rfl) kb kx0
        · replace hf := q_ifT cc_16 hf
          clear cc_16
          refine lv_aload_n hx hb dX0_go_68 rfl (lv_at hl 0 rfl) ?_
          refine q_aload_n hx hb dX0_go_69 rfl (lv_at hl 1 rfl) ?_
          refine lv_iconst (v := 1) hx hb dX0_go_70 (by decide) ?_
          obtain ⟨M_15, hw_14, hf⟩ := q_biE hf
          refine q_cV (As := [va_rf v1, .int (1 : Int32)]) (rest := []) (st1 := []) E hH (tX0_pullAll l D cA z0 h v1 (1 : Int32) Z M_11 M_15 hw_14) mw_X0_pullAll mi_X0_pullAll (ci := 0) rfl ms_X0_pullAll kM_X0_47 hk_4 hcc rfl rfl rfl hl.1 rfl rfl (Nat.le_of_ble_eq_true rfl) ⟨Nat.le_trans (by decide) hR.1, Nat.le_trans (by decide) hR.2⟩ dX0_go_71 (fun H locs hH => ?_)
          exact bX0_go_74 E hR hcc h v1 v2 v3 Z M_15 _ _ _ _ hf hH (lv_sub hl [0, 1, 2, 3] rfl) kb kx0
def fX0_go_L85 (h : Nat) (v1 : Option Nat) (v2 : Int32) (v3 : Int32) (Z : q_Z) (M : q_C) : Option ((Int32 × q_C) ⊕ q_C) :=
  if v3 ≤ v2 then
    some (Sum.inr M)
  else
    q_gd (zK Z h == 10) <|
    if gI M h 5 = 0 then
      Option.bind (fX0_pullAll h v1 (-1 : Int32) Z M) fun M_27 =>
      q_nm (sJ M_27 h 0 ((gJ M_27 h 0) - (gJ M_27 h 2))) fun M_28 =>
      q_nm (sJ M_28 h 1 ((gJ M_28 h 1) - (gJ M_28 h 3))) fun M_29 =>
      q_nm (sI M_29 h 4 ((gI M_29 h 4) - (1 : Int32))) fun M_30 =>
      Option.bind (fX0_isOutside h Z M_30) fun r_31 =>
      q_gd (decide (r_31 = 0) || decide (r_31 = 1)) <|
      q_nm (sI M_30 h 5 r_31) fun M_34 =>
      q_nm (v3 + (-1 : Int32)) fun v3_35 =>
      some (Sum.inl (v3_35, M_34))
    else
      some (Sum.inr M)
set_option maxHeartbeats 4000000 in
set_option maxRecDepth 100000 in
theorem lX0_go_85 {cells slots : Nat} {Q : State → Prop} (E : q_E p s m meth c cX0_go 4 RX0 none "go" D cA) (hR : 3 ≤ R.frames ∧ 81 ≤ R.locals) (hcc : cells ≤ R.cells ∧ slots ≤ R.slots)  (h : Nat) (v1 : Option Nat) (v2 : Int32) (Z : q_Z) : ∀ (n : Nat) (v3 : Int32) (M : q_C) (H : Heap) (locs : List Loc) (ls : Array Slot) (r : q_C), q_it (fun x => fX0_go_L85 h v1 v2 x.1 Z x.2) n (v3, M) = some r → q_Hh D cA z0 s Z M H locs → lv_has ls 4 [(0, .ref h), (1, va_rf v1), (2, .int v2), (3, .int v3)] → (kx0 : ∀ (M1 : q_C) (H : Heap) (locs : List Loc) (ls : Array Slot), M1 = r → q_Hh D cA z0 s Z M1 H locs → lv_has ls 4 [] → W p l e R s m args below meth c H locs cells slots Q (F0 m 153 ls [])) → W p l e R s m args below meth c H locs cells slots Q (F0 m 85 ls []) := by
  have hx := E.1
  have hb := E.2.1
  have hown := E.2.2.2.1
  have hT := E.2.2.2.2.2.2.2.1
  intro n
  induction n with
  | zero =>
    intro v3 M H locs ls r hf
    cases hf
  | succ n ih =>
    intro v3 M H locs ls r hf hH hl ky0
    obtain ⟨n1, o, hn, hf, ho⟩ := q_itE hf
    cases hn
    have hf : fX0_go_L85 h v1 v2 v3 Z M = some o := hf
    have kb : ∀ (w3 : Int32) (M1 : q_C) (H : Heap) (locs : List Loc) (ls : Array Slot), Sum.inl (w3, M1) = o → q_Hh D cA z0 s Z M1 H locs → lv_has ls 4 [(0, .ref h), (1, va_rf v1), (2, .int v2), (3, .int w3)] → W p l e R s m args below meth c H locs cells slots Q (F0 m 85 ls []) := by
      intro w3 M1 H locs ls e hH hl
      subst e
      exact ih w3 M1 H locs ls r ho hH hl ky0
    have kx0 : ∀ (M1 : q_C) (H : Heap) (locs : List Loc) (ls : Array Slot), Sum.inr M1 = o → q_Hh D cA z0 s Z M1 H locs → lv_has ls 4 [] → W p l e R s m args below meth c H locs cells slots Q (F0 m 153 ls []) := by
      intro M1 H locs ls e hH hl
      subst e
      exact ky0 M1 H locs ls ho hH hl
    unfold fX0_go_L85 at hf
    refine lv_iload_n hx hb dX0_go_85 rfl (lv_at hl 3 rfl) ?_
    refine lv_iload_n hx hb dX0_go_86 rfl (lv_at hl 2 rfl) ?_
    refine lv_icmp_le (tgt := 153) hx hb dX0_go_87 (by decide) (fun cc_38 => ?_) (fun cc_38 => ?_)
    · replace hf := q_ifT cc_38 hf
      clear cc_38
      cases hf
      exact kx0 M _ _ _ rfl hH (lv_sub hl [] rfl)
    · replace hf := q_ifF cc_38 hf
      clear cc_38
      refine lv_aload_n hx hb dX0_go_90 rfl (lv_at hl 0 rfl) ?_
      obtain ⟨hk_25, hf⟩ := q_gdE hf
      have hk_25 := q_keq hk_25
      refine q_getI E hH (ci := 0) rfl 5 (by decide) kF_X0_28 (fun _ _ _ => rfl) hk_25 dX0_go_91 ?_
      refine lv_if_ne (tgt := 153) hx hb dX0_go_94 (by decide) (fun cc_37 => ?_) (fun cc_37 => ?_)
      · replace hf := q_ifF cc_37 hf
        clear cc_37
        cases hf
        exact kx0 M _ _ _ rfl hH (lv_sub hl [] rfl)
      · replace hf := q_ifT cc_37 hf
        clear cc_37
        refine lv_aload_n hx hb dX0_go_97 rfl (lv_at hl 0 rfl) ?_
        refine q_aload_n hx hb dX0_go_98 rfl (lv_at hl 1 rfl) ?_
        refine lv_iconst (v := -1) hx hb dX0_go_99 (by decide) ?_
        obtain ⟨M_27, hw_26, hf⟩ := q_biE hf
        refine q_cV (As := [va_rf v1, .int (-1 : Int32)]) (rest := []) (st1 := []) E hH (tX0_pullAll l D cA z0 h v1 (-1 : Int32) Z M M_27 hw_26) mw_X0_pullAll mi_X0_pullAll (ci := 0) rfl ms_X0_pullAll kM_X0_47 hk_25 hcc rfl rfl rfl hl.1 rfl rfl (Nat.le_of_ble_eq_true rfl) ⟨Nat.le_trans (by decide) hR.1, Nat.le_trans (by decide) hR.2⟩ dX0_go_100 (fun H locs hH => ?_)
        refine lv_aload_n hx hb dX0_go_103 rfl (lv_at hl 0 rfl) ?_
        refine lv_dup hx hb dX0_go_104 rfl ?_
        refine q_getJ E hH (ci := 0) rfl 0 (by decide) kF_X0_9 (fun _ _ _ => rfl) hk_25 dX0_go_105 ?_
        refine lv_aload_n hx hb dX0_go_108 rfl (lv_at hl 0 rfl) ?_
        refine q_getJ E hH (ci := 0) rfl 2 (by decide) kF_X0_18 (fun _ _ _ => rfl) hk_25 dX0_go_109 ?_
        refine lv_lsub hx hb dX0_go_112 ?_
        refine q_putJ E hH (ci := 0) rfl 0 (by decide) kF_X0_9 rfl (fun _ _ _ => rfl) (x := (gJ M_27 h 0) - (gJ M_27 h 2)) hk_25 rfl rfl dX0_go_113 hf (fun M_28 H locs hH hf => ?_)
        refine lv_aload_n hx hb dX0_go_116 rfl (lv_at hl 0 rfl) ?_
        refine lv_dup hx hb dX0_go_117 rfl ?_
        refine q_getJ E hH (ci := 0) rfl 1 (by decide) kF_X0_15 (fun _ _ _ => rfl) hk_25 dX0_go_118 ?_
        refine lv_aload_n hx hb dX0_go_121 rfl (lv_at hl 0 rfl) ?_
        refine q_getJ E hH (ci := 0) rfl 3 (by decide) kF_X0_21 (fun _ _ _ => rfl) hk_25 dX0_go_122 ?_
        refine lv_lsub hx hb dX0_go_125 ?_
        refine q_putJ E hH (ci := 0) rfl 1 (by decide) kF_X0_15 rfl (fun _ _ _ => rfl) (x := (gJ M_28 h 1) - (gJ M_28 h 3)) hk_25 rfl rfl dX0_go_126 hf (fun M_29 H locs hH hf => ?_)
        refine lv_aload_n hx hb dX0_go_129 rfl (lv_at hl 0 rfl) ?_
        refine lv_dup hx hb dX0_go_130 rfl ?_
        refine q_getI E hH (ci := 0) rfl 4 (by decide) kF_X0_24 (fun _ _ _ => rfl) hk_25 dX0_go_131 ?_
        refine lv_iconst (v := 1) hx hb dX0_go_134 (by decide) ?_
        refine lv_isub hx hb dX0_go_135 ?_
        refine q_putI E hH (ci := 0) rfl 4 (by decide) kF_X0_24 rfl (fun _ _ _ => rfl) (x := (gI M_29 h 4) - (1 : Int32)) hk_25 rfl rfl dX0_go_136 hf (fun M_30 H locs hH hf => ?_)
        refine lv_aload_n hx hb dX0_go_139 rfl (lv_at hl 0 rfl) ?_
        refine lv_aload_n hx hb dX0_go_140 rfl (lv_at hl 0 rfl) ?_
        obtain ⟨r_31, hw_32, hf⟩ := q_biE hf
        refine q_cV (As := []) (rest := [.ref h]) (st1 := [.int r_31, .ref h]) E hH (tX0_isOutside l D cA z0 h Z M_30 r_31 hw_32) mw_X0_isOutside mi_X0_isOutside (ci := 0) rfl ms_X0_isOutside kM_X0_43 hk_25 hcc rfl rfl rfl hl.1 rfl rfl (Nat.le_of_ble_eq_true rfl) ⟨Nat.le_trans (by decide) hR.1, Nat.le_trans (by decide) hR.2⟩ dX0_go_141 (fun H locs hH => ?_)
        obtain ⟨hz_33, hf⟩ := q_gdE hf
        refine q_putI E hH (ci := 0) rfl 5 (by decide) kF_X0_28 rfl (fun _ _ _ => rfl) (x := r_31) hk_25 (q_zb hz_33).1 (q_zb hz_33).2 dX0_go_144 hf (fun M_34 H locs hH hf => ?_)
        obtain ⟨v3_35, hn_36⟩ : ∃ y : Int32, y = v3 + (-1 : Int32) := ⟨_, rfl⟩
        replace hf := q_nmE hn_36 hf
        refine lv_iinc (v := v3_35) (lv' := [(3, .int v3_35), (0, .ref h), (1, va_rf v1), (2, .int v2)]) hx hb dX0_go_147 hl (k := 3) rfl (by rw [hn_36]; rfl) (by decide) rfl (fun ls hl => ?_)
        clear hn_36
        refine lv_goto (tgt := 85) hx hb dX0_go_150 (by decide) ?_
        cases hf
        exact kb v3_35 M_34 _ _ _ rfl hH (lv_sub hl [1, 2, 3, 0] rfl)
def fX0_go_b153 (h : Nat) (Z : q_Z) (M : q_C) : Option (q_C) :=
  some M
set_option maxHeartbeats 4000000 in
set_option maxRecDepth 100000 in
theorem bX0_go_153 {cells slots : Nat} (E : q_E p s m meth c cX0_go 4 RX0 none "go" D cA) (hR : 3 ≤ R.frames ∧ 81 ≤ R.locals) (hcc : cells ≤ R.cells ∧ slots ≤ R.slots) (h : Nat) (Z : q_Z) (M : q_C) (H : Heap) (locs : List Loc) (ls : Array Slot) (M' : q_C) (hf : fX0_go_b153 h Z M = some M') (hH : q_Hh D cA z0 s Z M H locs) (hl : lv_has ls 4 [])  : W p l e R s m args below meth c H locs cells slots (MQ below (q_Q D cA z0 none Z M') args s cells slots (fun q => z0 ≤ q)) (F0 m 153 ls []) := by
  have hx := E.1
  have hb := E.2.1
  have hown := E.2.2.2.1
  have hT := E.2.2.2.2.2.2.2.1
  unfold fX0_go_b153 at hf
  cases hf
  exact q_vret E hH dX0_go_153
def fX0_go_b80 (h : Nat) (v1 : Option Nat) (v2 : Int32) (Z : q_Z) (M : q_C) : Option (q_C) :=
  q_gd (zK Z h == 10) <|
  q_nm (gI M h 4) fun v3_23 =>
  Option.bind (q_it (fun x => fX0_go_L85 h v1 v2 x.1 Z x.2) q_FU (v3_23, M)) fun r_39 =>
  q_nm r_39 fun M_41 =>
  fX0_go_b153 h Z M_41
set_option maxHeartbeats 4000000 in
set_option maxRecDepth 100000 in
theorem bX0_go_80 {cells slots : Nat} (E : q_E p s m meth c cX0_go 4 RX0 none "go" D cA) (hR : 3 ≤ R.frames ∧ 81 ≤ R.locals) (hcc : cells ≤ R.cells ∧ slots ≤ R.slots) (h : Nat) (v1 : Option Nat) (v2 : Int32) (Z : q_Z) (M : q_C) (H : Heap) (locs : List Loc) (ls : Array Slot) (M' : q_C) (hf : fX0_go_b80 h v1 v2 Z M = some M') (hH : q_Hh D cA z0 s Z M H locs) (hl : lv_has ls 4 [(0, .ref h), (1, va_rf v1), (2, .int v2)])  : W p l e R s m args below meth c H locs cells slots (MQ below (q_Q D cA z0 none Z M') args s cells slots (fun q => z0 ≤ q)) (F0 m 80 ls []) := by
  have hx := E.1
  have hb := E.2.1
  have hown := E.2.2.2.1
  have hT := E.2.2.2.2.2.2.2.1
  unfold fX0_go_b80 at hf
  refine lv_aload_n hx hb dX0_go_80 rfl (lv_at hl 0 rfl) ?_
  obtain ⟨hk_22, hf⟩ := q_gdE hf
  have hk_22 := q_keq hk_22
  refine q_getI E hH (ci := 0) rfl 4 (by decide) kF_X0_24 (fun _ _ _ => rfl) hk_22 dX0_go_81 ?_
  refine lv_topi (fun v3_23 hn_24 => ?_)
  replace hf := q_nmE hn_24 hf
  clear hn_24
  refine lv_istore_n (lv' := [(3, .int v3_23), (0, .ref h), (1, va_rf v1), (2, .int v2)]) hx hb dX0_go_84 rfl hl (by decide) rfl (fun ls hl => ?_)
  obtain ⟨r_39, hr_40, hf⟩ := q_biE hf
  refine lX0_go_85 E hR hcc h v1 v2 Z q_FU v3_23 M _ _ _ r_39 hr_40 hH (lv_sub hl [1, 2, 3, 0] rfl) (fun M_41 H locs ls he_42 hH hl => ?_)
  · subst he_42
    replace hf := q_nmE (x := M_41) rfl hf
    exact bX0_go_153 E hR hcc h Z M_41 _ _ _ _ hf hH (lv_sub hl [] rfl)
def fX0_go (h : Nat) (v1 : Option Nat) (v2 : Int32) (Z : q_Z) (M : q_C) : Option (q_C) :=
  q_gd (zK Z h == 10) <|
  q_nm (gI M h 4) fun v3_2 =>
  Option.bind (q_it (fun x => fX0_go_L5 h v1 v2 x.1 Z x.2) q_FU (v3_2, M)) fun r_19 =>
  q_nm r_19 fun M_21 =>
  fX0_go_b80 h v1 v2 Z M_21
set_option maxHeartbeats 4000000 in
set_option maxRecDepth 100000 in
theorem bX0_go_0 {cells slots : Nat} (E : q_E p s m meth c cX0_go 4 RX0 none "go" D cA) (hR : 3 ≤ R.frames ∧ 81 ≤ R.locals) (hcc : cells ≤ R.cells ∧ slots ≤ R.slots) (h : Nat) (v1 : Option Nat) (v2 : Int32) (Z : q_Z) (M : q_C) (H : Heap) (locs : List Loc) (ls : Array Slot) (M' : q_C) (hf : fX0_go h v1 v2 Z M = some M') (hH : q_Hh D cA z0 s Z M H locs) (hl : lv_has ls 4 [(0, .ref h), (1, va_rf v1), (2, .int v2)])  : W p l e R s m args below meth c H locs cells slots (MQ below (q_Q D cA z0 none Z M') args s cells slots (fun q => z0 ≤ q)) (F0 m 0 ls []) := by
  have hx := E.1
  have hb := E.2.1
  have hown := E.2.2.2.1
  have hT := E.2.2.2.2.2.2.2.1
  unfold fX0_go at hf
  refine lv_aload_n hx hb dX0_go_0 rfl (lv_at hl 0 rfl) ?_
  obtain ⟨hk_1, hf⟩ := q_gdE hf
  have hk_1 := q_keq hk_1
  refine q_getI E hH (ci := 0) rfl 4 (by decide) kF_X0_24 (fun _ _ _ => rfl) hk_1 dX0_go_1 ?_
  refine lv_topi (fun v3_2 hn_3 => ?_)
  replace hf := q_nmE hn_3 hf
  clear hn_3
  refine lv_istore_n (lv' := [(3, .int v3_2), (0, .ref h), (1, va_rf v1), (2, .int v2)]) hx hb dX0_go_4 rfl hl (by decide) rfl (fun ls hl => ?_)
  obtain ⟨r_19, hr_20, hf⟩ := q_biE hf
  refine lX0_go_5 E hR hcc h v1 v2 Z q_FU v3_2 M _ _ _ r_19 hr_20 hH (lv_sub hl [1, 2, 3, 0] rfl) (fun M_21 H locs ls he_43 hH hl => ?_)
  · subst he_43
    replace hf := q_nmE (x := M_21) rfl hf
    exact bX0_go_80 E hR hcc h v1 v2 Z M_21 _ _ _ _ hf hH (lv_sub hl [0, 1, 2] rfl)
set_option maxRecDepth 100000 in
theorem tX0_go (l : Launch) (D : va_G) (cA : Nat → ClassId) (z0 : Nat) (h : Nat) (v1 : Option Nat) (v2 : Int32) (Z : q_Z) (M : q_C) (M' : q_C) (hf : fX0_go h v1 v2 Z M = some M') : q_Ct l D cA z0 yX0_go cX0_go 4 none 3 81 [.ref h, va_rf v1, .int v2] Z M none Z M' 0 0 := by
  cases v1 <;>
  (refine q_start (plainFor_of_name (by decide)) (Nat.le_of_ble_eq_true rfl) (fun p e s m below meth c H ls E hH hl => ?_); exact bX0_go_0 E ⟨Nat.le_refl _, Nat.le_refl _⟩ ⟨Nat.le_refl _, Nat.le_refl _⟩ h _ _ Z M H [] ls M' hf hH hl)
end Q211
