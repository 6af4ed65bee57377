section Q241
variable {p : Program} {l : Launch} {e : Env} {R : Room} {s : State} {m : MethodId} {args : Array Value} {below : List Frame} {meth : Method} {c : Code} {D : va_G} {cA : Nat → ClassId} {z0 : Nat}
def fX4_init_b17 (h : Nat) (s0 : Nat) (s1 : Nat) (Z : q_Z) (M : q_C) : Option (q_Z × q_C) :=
  q_gd (zK Z s1 == 14) <|
  q_nm (sR M s1 1 (some s0)) fun M_6 =>
  q_gd (zK Z h == 14) <|
  q_nm (sI M_6 h 2 (0 : Int32)) fun M_8 =>
  some (Z, M_8)
theorem moX4_init_b17 (h : Nat) (s0 : Nat) (s1 : Nat) (Z : q_Z) (M : q_C) (Z' : q_Z) (M' : q_C) (hf : fX4_init_b17 h s0 s1 Z M = some (Z', M')) : q_le Z Z' := by
  unfold fX4_init_b17 at hf
  obtain ⟨-, hf⟩ := q_gdE hf
  replace hf := q_nmE (x := _) rfl hf
  obtain ⟨-, hf⟩ := q_gdE hf
  replace hf := q_nmE (x := _) rfl hf
  cases hf
  exact q_le.rf
set_option maxHeartbeats 4000000 in
set_option maxRecDepth 100000 in
theorem bX4_init_17 (E : q_E p s m meth c cX4_init 1 RX4 none "<init>" D cA) (hR : 1 ≤ R.frames ∧ 20 ≤ R.locals) (Zi : q_Z) {Z : q_Z} (hi : q_le Zi Z) {Z' : q_Z} {M' : q_C} (hbd : zS Z' - zS Zi ≤ R.cells ∧ zC Z' - zC Zi ≤ R.slots)  (h : Nat) (s0 : Nat) (s1 : Nat) (M : q_C) (H : Heap) (locs : List Loc) (ls : Array Slot) (hf : fX4_init_b17 h s0 s1 Z M = some (Z', M')) (hH : q_Hh D cA z0 s Z M H locs) (hl : lv_has ls 1 [(0, .ref h)])  : W p l e R s m args below meth c H locs (zS Z - zS Zi) (zC Z - zC Zi) (MQ below (q_Q D cA z0 none Z' M') args s (zS Z' - zS Zi) (zC Z' - zC Zi) (fun q => z0 ≤ q)) (F0 m 17 ls [.ref s0, .ref s1]) := by
  have hx := E.1
  have hb := E.2.1
  have hown := E.2.2.2.1
  have hT := E.2.2.2.2.2.2.2.1
  have hcc := q_bd hi (moX4_init_b17 _ _ _ _ _ _ _ hf) hbd
  unfold fX4_init_b17 at hf
  obtain ⟨hk_5, hf⟩ := q_gdE hf
  have hk_5 := q_keq hk_5
  refine q_putRF E hH (ci := 4) rfl 1 (by decide) kF_X4_15 rfl rfl rfl (fun _ _ _ => rfl) (x := (some s0)) hk_5 (q_rff _ "" _ (Or.inr ⟨_, rfl⟩)).1 (q_rff _ "" _ (Or.inr ⟨_, rfl⟩)).2 dX4_init_17 hf (fun M_6 H locs hH hf => ?_)
  refine lv_aload_n hx hb dX4_init_20 rfl (lv_at hl 0 rfl) ?_
  refine lv_iconst (v := 0) hx hb dX4_init_21 (by decide) ?_
  obtain ⟨hk_7, hf⟩ := q_gdE hf
  have hk_7 := q_keq hk_7
  refine q_putI E hH (ci := 4) rfl 2 (by decide) kF_X4_18 rfl (fun _ _ _ => rfl) (x := (0 : Int32)) hk_7 rfl rfl dX4_init_22 hf (fun M_8 H locs hH hf => ?_)
  cases hf
  exact q_vret E hH dX4_init_25
def fX4_init_b9 (h : Nat) (s0 : Nat) (s1 : Nat) (Z : q_Z) (M : q_C) : Option (q_Z × q_C) :=
  q_gd (zK Z s1 == 14) <|
  q_nm (sR M s1 0 (some s0)) fun M_3 =>
  q_gd (zK Z (zS Z) == 0) <|
  fX4_init_b17 h (zS Z) h (zN Z 1 40) (cN M_3 (zS Z))
theorem moX4_init_b9 (h : Nat) (s0 : Nat) (s1 : Nat) (Z : q_Z) (M : q_C) (Z' : q_Z) (M' : q_C) (hf : fX4_init_b9 h s0 s1 Z M = some (Z', M')) : q_le Z Z' := by
  unfold fX4_init_b9 at hf
  obtain ⟨-, hf⟩ := q_gdE hf
  replace hf := q_nmE (x := _) rfl hf
  obtain ⟨-, hf⟩ := q_gdE hf
  exact (q_le.nw (kd := 1) (n := 40)).tr (moX4_init_b17 _ _ _ _ _ _ _ hf)
set_option maxHeartbeats 4000000 in
set_option maxRecDepth 100000 in
theorem bX4_init_9 (E : q_E p s m meth c cX4_init 1 RX4 none "<init>" D cA) (hR : 1 ≤ R.frames ∧ 20 ≤ R.locals) (Zi : q_Z) {Z : q_Z} (hi : q_le Zi Z) {Z' : q_Z} {M' : q_C} (hbd : zS Z' - zS Zi ≤ R.cells ∧ zC Z' - zC Zi ≤ R.slots)  (h : Nat) (s0 : Nat) (s1 : Nat) (M : q_C) (H : Heap) (locs : List Loc) (ls : Array Slot) (hf : fX4_init_b9 h s0 s1 Z M = some (Z', M')) (hH : q_Hh D cA z0 s Z M H locs) (hl : lv_has ls 1 [(0, .ref h)])  : W p l e R s m args below meth c H locs (zS Z - zS Zi) (zC Z - zC Zi) (MQ below (q_Q D cA z0 none Z' M') args s (zS Z' - zS Zi) (zC Z' - zC Zi) (fun q => z0 ≤ q)) (F0 m 9 ls [.ref s0, .ref s1]) := by
  have hx := E.1
  have hb := E.2.1
  have hown := E.2.2.2.1
  have hT := E.2.2.2.2.2.2.2.1
  have hcc := q_bd hi (moX4_init_b9 _ _ _ _ _ _ _ hf) hbd
  unfold fX4_init_b9 at hf
  obtain ⟨hk_2, hf⟩ := q_gdE hf
  have hk_2 := q_keq hk_2
  refine q_putRF E hH (ci := 4) rfl 0 (by decide) kF_X4_9 rfl rfl rfl (fun _ _ _ => rfl) (x := (some s0)) hk_2 (q_rff _ "" _ (Or.inr ⟨_, rfl⟩)).1 (q_rff _ "" _ (Or.inr ⟨_, rfl⟩)).2 dX4_init_9 hf (fun M_3 H locs hH hf => ?_)
  refine lv_aload_n hx hb dX4_init_12 rfl (lv_at hl 0 rfl) ?_
  refine lv_bipush (v := 40) hx hb dX4_init_13 (by decide) ?_
  obtain ⟨hz_4, hf⟩ := q_gdE hf
  have hz_4 := q_keq hz_4
  have hq : q_le (zN Z 1 40) Z' := moX4_init_b17 _ _ _ _ _ _ _ hf
  refine q_newarr1 (N := 40) E hH kA_int (by decide) (by decide) (by decide) hz_4 (q_nwb (kd := 1) (n := 40) hi hq hbd) dX4_init_15 (fun H hH => ?_)
  refine q_wc (c1 := zS (zN Z 1 40) - zS Zi) (s1 := zC (zN Z 1 40) - zC Zi) (q_bn1 hi) (q_bn2 hi) ?_
  exact bX4_init_17 E hR Zi (hi.tr q_le.nw) hbd h (zS Z) h (cN M_3 (zS Z)) _ _ _  hf hH (lv_sub hl [0] rfl)
def fX4_init (h : Nat) (Z : q_Z) (M : q_C) : Option (q_Z × q_C) :=
  q_gd (zK Z (zS Z) == 0) <|
  fX4_init_b9 h (zS Z) h (zN Z 1 40) (cN M (zS Z))
theorem moX4_init (h : Nat) (Z : q_Z) (M : q_C) (Z' : q_Z) (M' : q_C) (hf : fX4_init h Z M = some (Z', M')) : q_le Z Z' := by
  unfold fX4_init at hf
  obtain ⟨-, hf⟩ := q_gdE hf
  exact (q_le.nw (kd := 1) (n := 40)).tr (moX4_init_b9 _ _ _ _ _ _ _ hf)
set_option maxHeartbeats 4000000 in
set_option maxRecDepth 100000 in
theorem bX4_init_0 (E : q_E p s m meth c cX4_init 1 RX4 none "<init>" D cA) (hR : 1 ≤ R.frames ∧ 20 ≤ R.locals) (Zi : q_Z) {Z : q_Z} (hi : q_le Zi Z) {Z' : q_Z} {M' : q_C} (hbd : zS Z' - zS Zi ≤ R.cells ∧ zC Z' - zC Zi ≤ R.slots)  (h : Nat) (M : q_C) (H : Heap) (locs : List Loc) (ls : Array Slot) (hf : fX4_init h Z M = some (Z', M')) (hH : q_Hh D cA z0 s Z M H locs) (hl : lv_has ls 1 [(0, .ref h)])  : W p l e R s m args below meth c H locs (zS Z - zS Zi) (zC Z - zC Zi) (MQ below (q_Q D cA z0 none Z' M') args s (zS Z' - zS Zi) (zC Z' - zC Zi) (fun q => z0 ≤ q)) (F0 m 0 ls []) := by
  have hx := E.1
  have hb := E.2.1
  have hown := E.2.2.2.1
  have hT := E.2.2.2.2.2.2.2.1
  have hcc := q_bd hi (moX4_init _ _ _ _ _ hf) hbd
  unfold fX4_init at hf
  refine lv_aload_n hx hb dX4_init_0 rfl (lv_at hl 0 rfl) ?_
  refine q_oinit E kM_X4_3 kO_in kO_cd hl.1 (Nat.le_trans (by decide) hR.1) (Nat.le_trans (by decide) hR.2) dX4_init_1 ?_
  refine lv_aload_n hx hb dX4_init_4 rfl (lv_at hl 0 rfl) ?_
  refine lv_bipush (v := 40) hx hb dX4_init_5 (by decide) ?_
  obtain ⟨hz_1, hf⟩ := q_gdE hf
  have hz_1 := q_keq hz_1
  have hq : q_le (zN Z 1 40) Z' := moX4_init_b9 _ _ _ _ _ _ _ hf
  refine q_newarr1 (N := 40) E hH kA_int (by decide) (by decide) (by decide) hz_1 (q_nwb (kd := 1) (n := 40) hi hq hbd) dX4_init_7 (fun H hH => ?_)
  refine q_wc (c1 := zS (zN Z 1 40) - zS Zi) (s1 := zC (zN Z 1 40) - zC Zi) (q_bn1 hi) (q_bn2 hi) ?_
  exact bX4_init_9 E hR Zi (hi.tr q_le.nw) hbd h (zS Z) h (cN M (zS Z)) _ _ _  hf hH (lv_sub hl [0] rfl)
set_option maxRecDepth 100000 in
theorem tX4_init (l : Launch) (D : va_G) (cA : Nat → ClassId) (z0 : Nat) (h : Nat) (Z : q_Z) (M : q_C) (Z' : q_Z) (M' : q_C) (hf : fX4_init h Z M = some (Z', M')) : q_Ct l D cA z0 yX4_init cX4_init 1 none 1 20 [.ref h] Z M none Z' M' (zS Z' - zS Z) (zC Z' - zC Z) := by
  (refine q_start (plainFor_of_name (by decide)) (Nat.le_of_ble_eq_true rfl) (fun p e s m below meth c H ls E hH hl => ?_)
   refine q_wc (c1 := zS Z - zS Z) (s1 := zC Z - zC Z) (Nat.sub_self _).symm (Nat.sub_self _).symm ?_
   exact bX4_init_0 E ⟨Nat.le_refl _, Nat.le_refl _⟩ Z q_le.rf ⟨Nat.le_refl _, Nat.le_refl _⟩ h M H [] ls hf hH hl)
def fX3_init_b23 (h : Nat) (s0 : Nat) (s1 : Nat) (Z : q_Z) (M : q_C) : Option (q_Z × q_C) :=
  q_gd (zK Z s1 == 13) <|
  q_nm (sR M s1 1 (some s0)) fun M_12 =>
  q_gd (zK Z h == 13) <|
  q_nm (sJ M_12 h 2 (10000000 : Int64)) fun M_14 =>
  q_nm (sJ M_14 h 3 (0 : Int64)) fun M_15 =>
  some (Z, M_15)
theorem moX3_init_b23 (h : Nat) (s0 : Nat) (s1 : Nat) (Z : q_Z) (M : q_C) (Z' : q_Z) (M' : q_C) (hf : fX3_init_b23 h s0 s1 Z M = some (Z', M')) : q_le Z Z' := by
  unfold fX3_init_b23 at hf
  obtain ⟨-, hf⟩ := q_gdE hf
  replace hf := q_nmE (x := _) rfl hf
  obtain ⟨-, hf⟩ := q_gdE hf
  replace hf := q_nmE (x := _) rfl hf
  replace hf := q_nmE (x := _) rfl hf
  cases hf
  exact q_le.rf
set_option maxHeartbeats 4000000 in
set_option maxRecDepth 100000 in
theorem bX3_init_23 (E : q_E p s m meth c cX3_init 1 RX3 none "<init>" D cA) (hR : 2 ≤ R.frames ∧ 40 ≤ R.locals) (Zi : q_Z) {Z : q_Z} (hi : q_le Zi Z) {Z' : q_Z} {M' : q_C} (hbd : zS Z' - zS Zi ≤ R.cells ∧ zC Z' - zC Zi ≤ R.slots)  (h : Nat) (s0 : Nat) (s1 : Nat) (M : q_C) (H : Heap) (locs : List Loc) (ls : Array Slot) (hf : fX3_init_b23 h s0 s1 Z M = some (Z', M')) (hH : q_Hh D cA z0 s Z M H locs) (hl : lv_has ls 1 [(0, .ref h)])  : W p l e R s m args below meth c H locs (zS Z - zS Zi) (zC Z - zC Zi) (MQ below (q_Q D cA z0 none Z' M') args s (zS Z' - zS Zi) (zC Z' - zC Zi) (fun q => z0 ≤ q)) (F0 m 23 ls [.ref s0, .ref s1]) := by
  have hx := E.1
  have hb := E.2.1
  have hown := E.2.2.2.1
  have hT := E.2.2.2.2.2.2.2.1
  have hcc := q_bd hi (moX3_init_b23 _ _ _ _ _ _ _ hf) hbd
  unfold fX3_init_b23 at hf
  obtain ⟨hk_11, hf⟩ := q_gdE hf
  have hk_11 := q_keq hk_11
  refine q_putRF E hH (ci := 3) rfl 1 (by decide) kF_X3_16 rfl rfl rfl (fun _ _ _ => rfl) (x := (some s0)) hk_11 (q_rff _ "CometBench$Table" _ (Or.inl rfl)).1 (q_rff _ "CometBench$Table" _ (Or.inl rfl)).2 dX3_init_23 hf (fun M_12 H locs hH hf => ?_)
  refine lv_aload_n hx hb dX3_init_26 rfl (lv_at hl 0 rfl) ?_
  refine lv_ldc2 hx hb hown (hT.1 _ _ kK_X3_19) dX3_init_27 ?_
  obtain ⟨hk_13, hf⟩ := q_gdE hf
  have hk_13 := q_keq hk_13
  refine q_putJ E hH (ci := 3) rfl 2 (by decide) kF_X3_21 rfl (fun _ _ _ => rfl) (x := (10000000 : Int64)) hk_13 rfl rfl dX3_init_30 hf (fun M_14 H locs hH hf => ?_)
  refine lv_aload_n hx hb dX3_init_33 rfl (lv_at hl 0 rfl) ?_
  refine lv_lconst (v := 0) hx hb dX3_init_34 (by decide) ?_
  refine q_putJ E hH (ci := 3) rfl 3 (by decide) kF_X3_25 rfl (fun _ _ _ => rfl) (x := (0 : Int64)) hk_13 rfl rfl dX3_init_35 hf (fun M_15 H locs hH hf => ?_)
  cases hf
  exact q_vret E hH dX3_init_38
def fX3_init_b19 (h : Nat) (s0 : Nat) (s1 : Nat) (Z : q_Z) (M : q_C) : Option (q_Z × q_C) :=
  q_b2 (fX4_init s0 Z M) fun Z_10 M_9 =>
  fX3_init_b23 h s0 s1 Z_10 M_9
theorem moX3_init_b19 (h : Nat) (s0 : Nat) (s1 : Nat) (Z : q_Z) (M : q_C) (Z' : q_Z) (M' : q_C) (hf : fX3_init_b19 h s0 s1 Z M = some (Z', M')) : q_le Z Z' := by
  unfold fX3_init_b19 at hf
  obtain ⟨Z_10, M_9, hw_8, hf⟩ := q_b2E hf
  have hq := moX4_init _ _ _ _ _ hw_8
  exact hq.tr (moX3_init_b23 _ _ _ _ _ _ _ hf)
set_option maxHeartbeats 4000000 in
set_option maxRecDepth 100000 in
theorem bX3_init_19 (E : q_E p s m meth c cX3_init 1 RX3 none "<init>" D cA) (hR : 2 ≤ R.frames ∧ 40 ≤ R.locals) (Zi : q_Z) {Z : q_Z} (hi : q_le Zi Z) {Z' : q_Z} {M' : q_C} (hbd : zS Z' - zS Zi ≤ R.cells ∧ zC Z' - zC Zi ≤ R.slots)  (h : Nat) (s0 : Nat) (s1 : Nat) (M : q_C) (H : Heap) (locs : List Loc) (ls : Array Slot) (hf : fX3_init_b19 h s0 s1 Z M = some (Z', M')) (hH : q_Hh D cA z0 s Z M H locs) (hl : lv_has ls 1 [(0, .ref h)])  : W p l e R s m args below meth c H locs (zS Z - zS Zi) (zC Z - zC Zi) (MQ below (q_Q D cA z0 none Z' M') args s (zS Z' - zS Zi) (zC Z' - zC Zi) (fun q => z0 ≤ q)) (F0 m 19 ls [.ref s0, .ref s1]) := by
  have hx := E.1
  have hb := E.2.1
  have hown := E.2.2.2.1
  have hT := E.2.2.2.2.2.2.2.1
  have hcc := q_bd hi (moX3_init_b19 _ _ _ _ _ _ _ hf) hbd
  unfold fX3_init_b19 at hf
  refine lv_dup hx hb dX3_init_19 rfl ?_
  obtain ⟨Z_10, M_9, hw_8, hf⟩ := q_b2E hf
  have hq1 := (moX4_init _ _ _ _ _ hw_8)
  have hq := moX3_init_b23 _ _ _ _ _ _ _ hf
  refine q_cIN (As := []) (rest := [.ref s0, .ref s1]) (st1 := [.ref s0, .ref s1]) E hH (tX4_init l D cA z0 s0 Z M Z_10 M_9 hw_8) mw_X4_init mi_X4_init rfl kM_X3_9 (q_bs hi hq1 hq hbd) (q_be1 hi hq1) (q_be2 hi hq1) rfl hl.1 rfl rfl (Nat.le_of_ble_eq_true rfl) ⟨Nat.le_trans (by decide) hR.1, Nat.le_trans (by decide) hR.2⟩ dX3_init_20 (fun H locs hH => ?_)
  exact bX3_init_23 E hR Zi (hi.tr hq1) hbd h s0 s1 M_9 _ _ _  hf hH (lv_sub hl [0] rfl)
def fX3_init_b12 (h : Nat) (s0 : Nat) (s1 : Nat) (Z : q_Z) (M : q_C) : Option (q_Z × q_C) :=
  q_gd (zK Z s1 == 13) <|
  q_nm (sR M s1 0 (some s0)) fun M_6 =>
  q_gd (zK Z (zS Z) == 0) <|
  fX3_init_b19 h (zS Z) h (zN Z 14 3) (cN M_6 (zS Z))
theorem moX3_init_b12 (h : Nat) (s0 : Nat) (s1 : Nat) (Z : q_Z) (M : q_C) (Z' : q_Z) (M' : q_C) (hf : fX3_init_b12 h s0 s1 Z M = some (Z', M')) : q_le Z Z' := by
  unfold fX3_init_b12 at hf
  obtain ⟨-, hf⟩ := q_gdE hf
  replace hf := q_nmE (x := _) rfl hf
  obtain ⟨-, hf⟩ := q_gdE hf
  exact (q_le.nw (kd := 14) (n := 3)).tr (moX3_init_b19 _ _ _ _ _ _ _ hf)
set_option maxHeartbeats 4000000 in
set_option maxRecDepth 100000 in
theorem bX3_init_12 (E : q_E p s m meth c cX3_init 1 RX3 none "<init>" D cA) (hR : 2 ≤ R.frames ∧ 40 ≤ R.locals) (Zi : q_Z) {Z : q_Z} (hi : q_le Zi Z) {Z' : q_Z} {M' : q_C} (hbd : zS Z' - zS Zi ≤ R.cells ∧ zC Z' - zC Zi ≤ R.slots)  (h : Nat) (s0 : Nat) (s1 : Nat) (M : q_C) (H : Heap) (locs : List Loc) (ls : Array Slot) (hf : fX3_init_b12 h s0 s1 Z M = some (Z', M')) (hH : q_Hh D cA z0 s Z M H locs) (hl : lv_has ls 1 [(0, .ref h)])  : W p l e R s m args below meth c H locs (zS Z - zS Zi) (zC Z - zC Zi) (MQ below (q_Q D cA z0 none Z' M') args s (zS Z' - zS Zi) (zC Z' - zC Zi) (fun q => z0 ≤ q)) (F0 m 12 ls [.ref s0, .ref s1]) := by
  have hx := E.1
  have hb := E.2.1
  have hown := E.2.2.2.1
  have hT := E.2.2.2.2.2.2.2.1
  have hcc := q_bd hi (moX3_init_b12 _ _ _ _ _ _ _ hf) hbd
  unfold fX3_init_b12 at hf
  obtain ⟨hk_5, hf⟩ := q_gdE hf
  have hk_5 := q_keq hk_5
  refine q_putRF E hH (ci := 3) rfl 0 (by decide) kF_X3_10 rfl rfl rfl (fun _ _ _ => rfl) (x := (some s0)) hk_5 (q_rff _ "CometBench$Table" _ (Or.inl rfl)).1 (q_rff _ "CometBench$Table" _ (Or.inl rfl)).2 dX3_init_12 hf (fun M_6 H locs hH hf => ?_)
  refine lv_aload_n hx hb dX3_init_15 rfl (lv_at hl 0 rfl) ?_
  obtain ⟨hz_7, hf⟩ := q_gdE hf
  have hz_7 := q_keq hz_7
  have hq : q_le (zN Z 14 3) Z' := moX3_init_b19 _ _ _ _ _ _ _ hf
  refine q_new E hH (ci := 4) rfl kC_X3_7 kI_X4 kN_X4 hz_7 (q_nwb (kd := 14) (n := 3) hi hq hbd) dX3_init_16 (fun H hH => ?_)
  refine q_wc (c1 := zS (zN Z 14 3) - zS Zi) (s1 := zC (zN Z 14 3) - zC Zi) (q_bn1 hi) (q_bn2 hi) ?_
  exact bX3_init_19 E hR Zi (hi.tr q_le.nw) hbd h (zS Z) h (cN M_6 (zS Z)) _ _ _  hf hH (lv_sub hl [0] rfl)
def fX3_init_b8 (h : Nat) (s0 : Nat) (s1 : Nat) (Z : q_Z) (M : q_C) : Option (q_Z × q_C) :=
  q_b2 (fX4_init s0 Z M) fun Z_4 M_3 =>
  fX3_init_b12 h s0 s1 Z_4 M_3
theorem moX3_init_b8 (h : Nat) (s0 : Nat) (s1 : Nat) (Z : q_Z) (M : q_C) (Z' : q_Z) (M' : q_C) (hf : fX3_init_b8 h s0 s1 Z M = some (Z', M')) : q_le Z Z' := by
  unfold fX3_init_b8 at hf
  obtain ⟨Z_4, M_3, hw_2, hf⟩ := q_b2E hf
  have hq := moX4_init _ _ _ _ _ hw_2
  exact hq.tr (moX3_init_b12 _ _ _ _ _ _ _ hf)
set_option maxHeartbeats 4000000 in
set_option maxRecDepth 100000 in
theorem bX3_init_8 (E : q_E p s m meth c cX3_init 1 RX3 none "<init>" D cA) (hR : 2 ≤ R.frames ∧ 40 ≤ R.locals) (Zi : q_Z) {Z : q_Z} (hi : q_le Zi Z) {Z' : q_Z} {M' : q_C} (hbd : zS Z' - zS Zi ≤ R.cells ∧ zC Z' - zC Zi ≤ R.slots)  (h : Nat) (s0 : Nat) (s1 : Nat) (M : q_C) (H : Heap) (locs : List Loc) (ls : Array Slot) (hf : fX3_init_b8 h s0 s1 Z M = some (Z', M')) (hH : q_Hh D cA z0 s Z M H locs) (hl : lv_has ls 1 [(0, .ref h)])  : W p l e R s m args below meth c H locs (zS Z - zS Zi) (zC Z - zC Zi) (MQ below (q_Q D cA z0 none Z' M') args s (zS Z' - zS Zi) (zC Z' - zC Zi) (fun q => z0 ≤ q)) (F0 m 8 ls [.ref s0, .ref s1]) := by
  have hx := E.1
  have hb := E.2.1
  have hown := E.2.2.2.1
  have hT := E.2.2.2.2.2.2.2.1
  have hcc := q_bd hi (moX3_init_b8 _ _ _ _ _ _ _ hf) hbd
  unfold fX3_init_b8 at hf
  refine lv_dup hx hb dX3_init_8 rfl ?_
  obtain ⟨Z_4, M_3, hw_2, hf⟩ := q_b2E hf
  have hq1 := (moX4_init _ _ _ _ _ hw_2)
  have hq := moX3_init_b12 _ _ _ _ _ _ _ hf
  refine q_cIN (As := []) (rest := [.ref s0, .ref s1]) (st1 := [.ref s0, .ref s1]) E hH (tX4_init l D cA z0 s0 Z M Z_4 M_3 hw_2) mw_X4_init mi_X4_init rfl kM_X3_9 (q_bs hi hq1 hq hbd) (q_be1 hi hq1) (q_be2 hi hq1) rfl hl.1 rfl rfl (Nat.le_of_ble_eq_true rfl) ⟨Nat.le_trans (by decide) hR.1, Nat.le_trans (by decide) hR.2⟩ dX3_init_9 (fun H locs hH => ?_)
  exact bX3_init_12 E hR Zi (hi.tr hq1) hbd h s0 s1 M_3 _ _ _  hf hH (lv_sub hl [0] rfl)
def fX3_init (h : Nat) (Z : q_Z) (M : q_C) : Option (q_Z × q_C) :=
  q_gd (zK Z (zS Z) == 0) <|
  fX3_init_b8 h (zS Z) h (zN Z 14 3) (cN M (zS Z))
theorem moX3_init (h : Nat) (Z : q_Z) (M : q_C) (Z' : q_Z) (M' : q_C) (hf : fX3_init h Z M = some (Z', M')) : q_le Z Z' := by
  unfold fX3_init at hf
  obtain ⟨-, hf⟩ := q_gdE hf
  exact (q_le.nw (kd := 14) (n := 3)).tr (moX3_init_b8 _ _ _ _ _ _ _ hf)
set_option maxHeartbeats 4000000 in
set_option maxRecDepth 100000 in
theorem bX3_init_0 (E : q_E p s m meth c cX3_init 1 RX3 none "<init>" D cA) (hR : 2 ≤ R.frames ∧ 40 ≤ R.locals) (Zi : q_Z) {Z : q_Z} (hi : q_le Zi Z) {Z' : q_Z} {M' : q_C} (hbd : zS Z' - zS Zi ≤ R.cells ∧ zC Z' - zC Zi ≤ R.slots)  (h : Nat) (M : q_C) (H : Heap) (locs : List Loc) (ls : Array Slot) (hf : fX3_init h Z M = some (Z', M')) (hH : q_Hh D cA z0 s Z M H locs) (hl : lv_has ls 1 [(0, .ref h)])  : W p l e R s m args below meth c H locs (zS Z - zS Zi) (zC Z - zC Zi) (MQ below (q_Q D cA z0 none Z' M') args s (zS Z' - zS Zi) (zC Z' - zC Zi) (fun q => z0 ≤ q)) (F0 m 0 ls []) := by
  have hx := E.1
  have hb := E.2.1
  have hown := E.2.2.2.1
  have hT := E.2.2.2.2.2.2.2.1
  have hcc := q_bd hi (moX3_init _ _ _ _ _ hf) hbd
  unfold fX3_init at hf
  refine lv_aload_n hx hb dX3_init_0 rfl (lv_at hl 0 rfl) ?_
  refine q_oinit E kM_X3_1 kO_in kO_cd hl.1 (Nat.le_trans (by decide) hR.1) (Nat.le_trans (by decide) hR.2) dX3_init_1 ?_
  refine lv_aload_n hx hb dX3_init_4 rfl (lv_at hl 0 rfl) ?_
  obtain ⟨hz_1, hf⟩ := q_gdE hf
  have hz_1 := q_keq hz_1
  have hq : q_le (zN Z 14 3) Z' := moX3_init_b8 _ _ _ _ _ _ _ hf
  refine q_new E hH (ci := 4) rfl kC_X3_7 kI_X4 kN_X4 hz_1 (q_nwb (kd := 14) (n := 3) hi hq hbd) dX3_init_5 (fun H hH => ?_)
  refine q_wc (c1 := zS (zN Z 14 3) - zS Zi) (s1 := zC (zN Z 14 3) - zC Zi) (q_bn1 hi) (q_bn2 hi) ?_
  exact bX3_init_8 E hR Zi (hi.tr q_le.nw) hbd h (zS Z) h (cN M (zS Z)) _ _ _  hf hH (lv_sub hl [0] rfl)
set_option maxRecDepth 100000 in
theorem tX3_init (l : Launch) (D : va_G) (cA : Nat → ClassId) (z0 : Nat) (h : Nat) (Z : q_Z) (M : q_C) (Z' : q_Z) (M' : q_C) (hf : fX3_init h Z M = some (Z', M')) : q_Ct l D cA z0 yX3_init cX3_init 1 none 2 40 [.ref h] Z M none Z' M' (zS Z' - zS Z) (zC Z' - zC Z) := by
  (refine q_start (plainFor_of_name (by decide)) (Nat.le_of_ble_eq_true rfl) (fun p e s m below meth c H ls E hH hl => ?_)
   refine q_wc (c1 := zS Z - zS Z) (s1 := zC Z - zC Z) (Nat.sub_self _).symm (Nat.sub_self _).symm ?_
   exact bX3_init_0 E ⟨Nat.le_refl _, Nat.le_refl _⟩ Z q_le.rf ⟨Nat.le_refl _, Nat.le_refl _⟩ h M H [] ls hf hH hl)
def fX1_init_b25 (h : Nat) (s0 : Nat) (s1 : Nat) (Z : q_Z) (M : q_C) : Option (q_Z × q_C) :=
  q_gd (zK Z s1 == 11) <|
  q_nm (sR M s1 2 (some s0)) fun M_9 =>
  q_gd (zK Z h == 11) <|
  q_nm (sI M_9 h 3 (0 : Int32)) fun M_11 =>
  some (Z, M_11)
theorem moX1_init_b25 (h : Nat) (s0 : Nat) (s1 : Nat) (Z : q_Z) (M : q_C) (Z' : q_Z) (M' : q_C) (hf : fX1_init_b25 h s0 s1 Z M = some (Z', M')) : q_le Z Z' := by
  unfold fX1_init_b25 at hf
  obtain ⟨-, hf⟩ := q_gdE hf
  replace hf := q_nmE (x := _) rfl hf
  obtain ⟨-, hf⟩ := q_gdE hf
  replace hf := q_nmE (x := _) rfl hf
  cases hf
  exact q_le.rf
set_option maxHeartbeats 4000000 in
set_option maxRecDepth 100000 in
theorem bX1_init_25 (E : q_E p s m meth c cX1_init 1 RX1 none "<init>" D cA) (hR : 1 ≤ R.frames ∧ 20 ≤ R.locals) (Zi : q_Z) {Z : q_Z} (hi : q_le Zi Z) {Z' : q_Z} {M' : q_C} (hbd : zS Z' - zS Zi ≤ R.cells ∧ zC Z' - zC Zi ≤ R.slots)  (h : Nat) (s0 : Nat) (s1 : Nat) (M : q_C) (H : Heap) (locs : List Loc) (ls : Array Slot) (hf : fX1_init_b25 h s0 s1 Z M = some (Z', M')) (hH : q_Hh D cA z0 s Z M H locs) (hl : lv_has ls 1 [(0, .ref h)])  : W p l e R s m args below meth c H locs (zS Z - zS Zi) (zC Z - zC Zi) (MQ below (q_Q D cA z0 none Z' M') args s (zS Z' - zS Zi) (zC Z' - zC Zi) (fun q => z0 ≤ q)) (F0 m 25 ls [.ref s0, .ref s1]) := by
  have hx := E.1
  have hb := E.2.1
  have hown := E.2.2.2.1
  have hT := E.2.2.2.2.2.2.2.1
  have hcc := q_bd hi (moX1_init_b25 _ _ _ _ _ _ _ hf) hbd
  unfold fX1_init_b25 at hf
  obtain ⟨hk_8, hf⟩ := q_gdE hf
  have hk_8 := q_keq hk_8
  refine q_putRF E hH (ci := 1) rfl 2 (by decide) kF_X1_19 rfl rfl rfl (fun _ _ _ => rfl) (x := (some s0)) hk_8 (q_rff _ "" _ (Or.inr ⟨_, rfl⟩)).1 (q_rff _ "" _ (Or.inr ⟨_, rfl⟩)).2 dX1_init_25 hf (fun M_9 H locs hH hf => ?_)
  refine lv_aload_n hx hb dX1_init_28 rfl (lv_at hl 0 rfl) ?_
  refine lv_iconst (v := 0) hx hb dX1_init_29 (by decide) ?_
  obtain ⟨hk_10, hf⟩ := q_gdE hf
  have hk_10 := q_keq hk_10
  refine q_putI E hH (ci := 1) rfl 3 (by decide) kF_X1_22 rfl (fun _ _ _ => rfl) (x := (0 : Int32)) hk_10 rfl rfl dX1_init_30 hf (fun M_11 H locs hH hf => ?_)
  cases hf
  exact q_vret E hH dX1_init_33
def fX1_init_b17 (h : Nat) (s0 : Nat) (s1 : Nat) (Z : q_Z) (M : q_C) : Option (q_Z × q_C) :=
  q_gd (zK Z s1 == 11) <|
  q_nm (sR M s1 1 (some s0)) fun M_6 =>
  q_gd (zK Z (zS Z) == 0) <|
  fX1_init_b25 h (zS Z) h (zN Z 2 100) (cN M_6 (zS Z))
theorem moX1_init_b17 (h : Nat) (s0 : Nat) (s1 : Nat) (Z : q_Z) (M : q_C) (Z' : q_Z) (M' : q_C) (hf : fX1_init_b17 h s0 s1 Z M = some (Z', M')) : q_le Z Z' := by
  unfold fX1_init_b17 at hf
  obtain ⟨-, hf⟩ := q_gdE hf
  replace hf := q_nmE (x := _) rfl hf
  obtain ⟨-, hf⟩ := q_gdE hf
  exact (q_le.nw (kd := 2) (n := 100)).tr (moX1_init_b25 _ _ _ _ _ _ _ hf)
set_option maxHeartbeats 4000000 in
set_option maxRecDepth 100000 in
theorem bX1_init_17 (E : q_E p s m meth c cX1_init 1 RX1 none "<init>" D cA) (hR : 1 ≤ R.frames ∧ 20 ≤ R.locals) (Zi : q_Z) {Z : q_Z} (hi : q_le Zi Z) {Z' : q_Z} {M' : q_C} (hbd : zS Z' - zS Zi ≤ R.cells ∧ zC Z' - zC Zi ≤ R.slots)  (h : Nat) (s0 : Nat) (s1 : Nat) (M : q_C) (H : Heap) (locs : List Loc) (ls : Array Slot) (hf : fX1_init_b17 h s0 s1 Z M = some (Z', M')) (hH : q_Hh D cA z0 s Z M H locs) (hl : lv_has ls 1 [(0, .ref h)])  : W p l e R s m args below meth c H locs (zS Z - zS Zi) (zC Z - zC Zi) (MQ below (q_Q D cA z0 none Z' M') args s (zS Z' - zS Zi) (zC Z' - zC Zi) (fun q => z0 ≤ q)) (F0 m 17 ls [.ref s0, .ref s1]) := by
  have hx := E.1
  have hb := E.2.1
  have hown := E.2.2.2.1
  have hT := E.2.2.2.2.2.2.2.1
  have hcc := q_bd hi (moX1_init_b17 _ _ _ _ _ _ _ hf) hbd
  unfold fX1_init_b17 at hf
  obtain ⟨hk_5, hf⟩ := q_gdE hf
  have hk_5 := q_keq hk_5
  refine q_putRF E hH (ci := 1) rfl 1 (by decide) kF_X1_15 rfl rfl rfl (fun _ _ _ => rfl) (x := (some s0)) hk_5 (q_rff _ "" _ (Or.inr ⟨_, rfl⟩)).1 (q_rff _ "" _ (Or.inr ⟨_, rfl⟩)).2 dX1_init_17 hf (fun M_6 H locs hH hf => ?_)
  refine lv_aload_n hx hb dX1_init_20 rfl (lv_at hl 0 rfl) ?_
  refine lv_bipush (v := 100) hx hb dX1_init_21 (by decide) ?_
  obtain ⟨hz_7, hf⟩ := q_gdE hf
  have hz_7 := q_keq hz_7
  have hq : q_le (zN Z 2 100) Z' := moX1_init_b25 _ _ _ _ _ _ _ hf
  refine q_newarr2 (N := 100) E hH kA_long (by decide) (by decide) (by decide) hz_7 (q_nwb (kd := 2) (n := 100) hi hq hbd) dX1_init_23 (fun H hH => ?_)
  refine q_wc (c1 := zS (zN Z 2 100) - zS Zi) (s1 := zC (zN Z 2 100) - zC Zi) (q_bn1 hi) (q_bn2 hi) ?_
  exact bX1_init_25 E hR Zi (hi.tr q_le.nw) hbd h (zS Z) h (cN M_6 (zS Z)) _ _ _  hf hH (lv_sub hl [0] rfl)
def fX1_init_b9 (h : Nat) (s0 : Nat) (s1 : Nat) (Z : q_Z) (M : q_C) : Option (q_Z × q_C) :=
  q_gd (zK Z s1 == 11) <|
  q_nm (sR M s1 0 (some s0)) fun M_3 =>
  q_gd (zK Z (zS Z) == 0) <|
  fX1_init_b17 h (zS Z) h (zN Z 2 100) (cN M_3 (zS Z))
theorem moX1_init_b9 (h : Nat) (s0 : Nat) (s1 : Nat) (Z : q_Z) (M : q_C) (Z' : q_Z) (M' : q_C) (hf : fX1_init_b9 h s0 s1 Z M = some (Z', M')) : q_le Z Z' := by
  unfold fX1_init_b9 at hf
  obtain ⟨-, hf⟩ := q_gdE hf
  replace hf := q_nmE (x := _) rfl hf
  obtain ⟨-, hf⟩ := q_gdE hf
  exact (q_le.nw (kd := 2) (n := 100)).tr (moX1_init_b17 _ _ _ _ _ _ _ hf)
set_option maxHeartbeats 4000000 in
set_option maxRecDepth 100000 in
theorem bX1_init_9 (E : q_E p s m meth c cX1_init 1 RX1 none "<init>" D cA) (hR : 1 ≤ R.frames ∧ 20 ≤ R.locals) (Zi : q_Z) {Z : q_Z} (hi : q_le Zi Z) {Z' : q_Z} {M' : q_C} (hbd : zS Z' - zS Zi ≤ R.cells ∧ zC Z' - zC Zi ≤ R.slots)  (h : Nat) (s0 : Nat) (s1 : Nat) (M : q_C) (H : Heap) (locs : List Loc) (ls : Array Slot) (hf : fX1_init_b9 h s0 s1 Z M = some (Z', M')) (hH : q_Hh D cA z0 s Z M H locs) (hl : lv_has ls 1 [(0, .ref h)])  : W p l e R s m args below meth c H locs (zS Z - zS Zi) (zC Z - zC Zi) (MQ below (q_Q D cA z0 none Z' M') args s (zS Z' - zS Zi) (zC Z' - zC Zi) (fun q => z0 ≤ q)) (F0 m 9 ls [.ref s0, .ref s1]) := by
  have hx := E.1
  have hb := E.2.1
  have hown := E.2.2.2.1
  have hT := E.2.2.2.2.2.2.2.1
  have hcc := q_bd hi (moX1_init_b9 _ _ _ _ _ _ _ hf) hbd
  unfold fX1_init_b9 at hf
  obtain ⟨hk_2, hf⟩ := q_gdE hf
  have hk_2 := q_keq hk_2
  refine q_putRF E hH (ci := 1) rfl 0 (by decide) kF_X1_9 rfl rfl rfl (fun _ _ _ => rfl) (x := (some s0)) hk_2 (q_rff _ "" _ (Or.inr ⟨_, rfl⟩)).1 (q_rff _ "" _ (Or.inr ⟨_, rfl⟩)).2 dX1_init_9 hf (fun M_3 H locs hH hf => ?_)
  refine lv_aload_n hx hb dX1_init_12 rfl (lv_at hl 0 rfl) ?_
  refine lv_bipush (v := 100) hx hb dX1_init_13 (by decide) ?_
  obtain ⟨hz_4, hf⟩ := q_gdE hf
  have hz_4 := q_keq hz_4
  have hq : q_le (zN Z 2 100) Z' := moX1_init_b17 _ _ _ _ _ _ _ hf
  refine q_newarr2 (N := 100) E hH kA_long (by decide) (by decide) (by decide) hz_4 (q_nwb (kd := 2) (n := 100) hi hq hbd) dX1_init_15 (fun H hH => ?_)
  refine q_wc (c1 := zS (zN Z 2 100) - zS Zi) (s1 := zC (zN Z 2 100) - zC Zi) (q_bn1 hi) (q_bn2 hi) ?_
  exact bX1_init_17 E hR Zi (hi.tr q_le.nw) hbd h (zS Z) h (cN M_3 (zS Z)) _ _ _  hf hH (lv_sub hl [0] rfl)
def fX1_init (h : Nat) (Z : q_Z) (M : q_C) : Option (q_Z × q_C) :=
  q_gd (zK Z (zS Z) == 0) <|
  fX1_init_b9 h (zS Z) h (zN Z 1 100) (cN M (zS Z))
theorem moX1_init (h : Nat) (Z : q_Z) (M : q_C) (Z' : q_Z) (M' : q_C) (hf : fX1_init h Z M = some (Z', M')) : q_le Z Z' := by
  unfold fX1_init at hf
  obtain ⟨-, hf⟩ := q_gdE hf
  exact (q_le.nw (kd := 1) (n := 100)).tr (moX1_init_b9 _ _ _ _ _ _ _ hf)
set_option maxHeartbeats 4000000 in
set_option maxRecDepth 100000 in
theorem bX1_init_0 (E : q_E p s m meth c cX1_init 1 RX1 none "<init>" D cA) (hR : 1 ≤ R.frames ∧ 20 ≤ R.locals) (Zi : q_Z) {Z : q_Z} (hi : q_le Zi Z) {Z' : q_Z} {M' : q_C} (hbd : zS Z' - zS Zi ≤ R.cells ∧ zC Z' - zC Zi ≤ R.slots)  (h : Nat) (M : q_C) (H : Heap) (locs : List Loc) (ls : Array Slot) (hf : fX1_init h Z M = some (Z', M')) (hH : q_Hh D cA z0 s Z M H locs) (hl : lv_has ls 1 [(0, .ref h)])  : W p l e R s m args below meth c H locs (zS Z - zS Zi) (zC Z - zC Zi) (MQ below (q_Q D cA z0 none Z' M') args s (zS Z' - zS Zi) (zC Z' - zC Zi) (fun q => z0 ≤ q)) (F0 m 0 ls []) := by
  have hx := E.1
  have hb := E.2.1
  have hown := E.2.2.2.1
  have hT := E.2.2.2.2.2.2.2.1
  have hcc := q_bd hi (moX1_init _ _ _ _ _ hf) hbd
  unfold fX1_init at hf
  refine lv_aload_n hx hb dX1_init_0 rfl (lv_at hl 0 rfl) ?_
  refine q_oinit E kM_X1_3 kO_in kO_cd hl.1 (Nat.le_trans (by decide) hR.1) (Nat.le_trans (by decide) hR.2) dX1_init_1 ?_
  refine lv_aload_n hx hb dX1_init_4 rfl (lv_at hl 0 rfl) ?_
  refine lv_bipush (v := 100) hx hb dX1_init_5 (by decide) ?_
  obtain ⟨hz_1, hf⟩ := q_gdE hf
  have hz_1 := q_keq hz_1
  have hq : q_le (zN Z 1 100) Z' := moX1_init_b9 _ _ _ _ _ _ _ hf
  refine q_newarr1 (N := 100) E hH kA_int (by decide) (by decide) (by decide) hz_1 (q_nwb (kd := 1) (n := 100) hi hq hbd) dX1_init_7 (fun H hH => ?_)
  refine q_wc (c1 := zS (zN Z 1 100) - zS Zi) (s1 := zC (zN Z 1 100) - zC Zi) (q_bn1 hi) (q_bn2 hi) ?_
  exact bX1_init_9 E hR Zi (hi.tr q_le.nw) hbd h (zS Z) h (cN M (zS Z)) _ _ _  hf hH (lv_sub hl [0] rfl)
set_option maxRecDepth 100000 in
theorem tX1_init (l : Launch) (D : va_G) (cA : Nat → ClassId) (z0 : Nat) (h : Nat) (Z : q_Z) (M : q_C) (Z' : q_Z) (M' : q_C) (hf : fX1_init h Z M = some (Z', M')) : q_Ct l D cA z0 yX1_init cX1_init 1 none 1 20 [.ref h] Z M none Z' M' (zS Z' - zS Z) (zC Z' - zC Z) := by
  (refine q_start (plainFor_of_name (by decide)) (Nat.le_of_ble_eq_true rfl) (fun p e s m below meth c H ls E hH hl => ?_)
   refine q_wc (c1 := zS Z - zS Z) (s1 := zC Z - zC Z) (Nat.sub_self _).symm (Nat.sub_self _).symm ?_
   exact bX1_init_0 E ⟨Nat.le_refl _, Nat.le_refl _⟩ Z q_le.rf ⟨Nat.le_refl _, Nat.le_refl _⟩ h M H [] ls hf hH hl)
def fX6_init_b143 (h : Nat) (v1 : Int32) (s0 : Nat) (s1 : Int32) (s2 : Nat) (Z : q_Z) (M : q_C) : Option ((Int32 × q_Z × q_C) ⊕ (q_Z × q_C)) :=
  Option.bind (fX2_init s0 Z M) fun M_53 =>
  q_gd (q_ok Z s2 3 s1) <|
  q_gd (zK Z s0 == 12) <|
  q_nm (sR M_53 s2 s1.toNatClampNeg (some s0)) fun M_56 =>
  q_nm (v1 + (1 : Int32)) fun v1_57 =>
  some (Sum.inl (v1_57, Z, M_56))
theorem moX6_init_b143 (h : Nat) (v1 : Int32) (s0 : Nat) (s1 : Int32) (s2 : Nat) (Z : q_Z) (M : q_C) (o : (Int32 × q_Z × q_C) ⊕ (q_Z × q_C)) (hf : fX6_init_b143 h v1 s0 s1 s2 Z M = some o) : q_le Z (q_sm o (fun x => x.2.1) (fun x => x.1)) := by
  unfold fX6_init_b143 at hf
  obtain ⟨M_53, hw_52, hf⟩ := q_biE hf
  obtain ⟨-, hf⟩ := q_gdE hf
  obtain ⟨-, hf⟩ := q_gdE hf
  replace hf := q_nmE (x := _) rfl hf
  replace hf := q_nmE (x := _) rfl hf
  cases hf
  exact q_le.rf
set_option maxHeartbeats 4000000 in
set_option maxRecDepth 100000 in
theorem bX6_init_143 {Q : State → Prop} (E : q_E p s m meth c cX6_init 2 RX6 none "<init>" D cA) (hR : 3 ≤ R.frames ∧ 60 ≤ R.locals) (Zi : q_Z) {Z : q_Z} (hi : q_le Zi Z) {o : (Int32 × q_Z × q_C) ⊕ (q_Z × q_C)} (hbd : zS (q_sm o (fun x => x.2.1) (fun x => x.1)) - zS Zi ≤ R.cells ∧ zC (q_sm o (fun x => x.2.1) (fun x => x.1)) - zC Zi ≤ R.slots)  (h : Nat) (v1 : Int32) (s0 : Nat) (s1 : Int32) (s2 : Nat) (M : q_C) (H : Heap) (locs : List Loc) (ls : Array Slot) (hf : fX6_init_b143 h v1 s0 s1 s2 Z M = some o) (hH : q_Hh D cA z0 s Z M H locs) (hl : lv_has ls 2 [(0, .ref h), (1, .int v1)]) (kb : ∀ (w1 : Int32) (Z1 : q_Z) (M1 : q_C) (H : Heap) (locs : List Loc) (ls : Array Slot), Sum.inl (w1, Z1, M1) = o → q_Hh D cA z0 s Z1 M1 H locs → lv_has ls 2 [(0, .ref h), (1, .int w1)] → q_le Zi Z1 → W p l e R s m args below meth c H locs (zS Z1 - zS Zi) (zC Z1 - zC Zi) Q (F0 m 126 ls [])) (kx0 : ∀ (Z1 : q_Z) (M1 : q_C) (H : Heap) (locs : List Loc) (ls : Array Slot), Sum.inr (Z1, M1) = o → q_Hh D cA z0 s Z1 M1 H locs → lv_has ls 2 [] → q_le Zi Z1 → W p l e R s m args below meth c H locs (zS Z1 - zS Zi) (zC Z1 - zC Zi) Q (F0 m 154 ls [])) : W p l e R s m args below meth c H locs (zS Z - zS Zi) (zC Z - zC Zi) Q (F0 m 143 ls [.ref s0, .int s1, .ref s2]) := by
  have hx := E.1
  have hb := E.2.1
  have hown := E.2.2.2.1
  have hT := E.2.2.2.2.2.2.2.1
  have hcc := q_bd hi (moX6_init_b143 _ _ _ _ _ _ _ _ hf) hbd
  unfold fX6_init_b143 at hf
  refine lv_dup hx hb dX6_init_143 rfl ?_
  obtain ⟨M_53, hw_52, hf⟩ := q_biE hf
  refine q_cIN (As := []) (rest := [.ref s0, .int s1, .ref s2]) (st1 := [.ref s0, .int s1, .ref s2]) E hH (tX2_init l D cA z0 s0 Z M M_53 hw_52) mw_X2_init mi_X2_init rfl kM_X6_75 hcc rfl rfl rfl hl.1 rfl rfl (Nat.le_of_ble_eq_true rfl) ⟨Nat.le_trans (by decide) hR.1, Nat.le_trans (by decide) hR.2⟩ dX6_init_144 (fun H locs hH => ?_)
  obtain ⟨hz_54, hf⟩ := q_gdE hf
  obtain ⟨hk_55, hf⟩ := q_gdE hf
  have hk_55 := q_keq hk_55
  refine q_aastore3 E hH hz_54 hk_55 dX6_init_147 hf (fun M_56 H locs hH hf => ?_)
  obtain ⟨v1_57, hn_58⟩ : ∃ y : Int32, y = v1 + (1 : Int32) := ⟨_, rfl⟩
  replace hf := q_nmE hn_58 hf
  refine lv_iinc (v := v1_57) (lv' := [(1, .int v1_57), (0, .ref h)]) hx hb dX6_init_148 hl (k := 1) rfl (by rw [hn_58]; rfl) (by decide) rfl (fun ls hl => ?_)
  clear hn_58
  refine lv_goto (tgt := 126) hx hb dX6_init_151 (by decide) ?_
  cases hf
  exact kb v1_57 Z M_56 _ _ _ rfl hH (lv_sub hl [1, 0] rfl) hi
def fX6_init_L126 (h : Nat) (v1 : Int32) (Z : q_Z) (M : q_C) : Option ((Int32 × q_Z × q_C) ⊕ (q_Z × q_C)) :=
  q_gd (zK Z h == 16) <|
  Option.bind (gR M h 2) fun a_46 =>
  q_gd (zK Z a_46 == 3) <|
  if nI (zL Z a_46) ≤ v1 then
    some (Sum.inr (Z, M))
  else
    Option.bind (gR M h 2) fun a_49 =>
    q_gd (zK Z (zS Z) == 0) <|
    fX6_init_b143 h v1 (zS Z) v1 a_49 (zN Z 12 5) (cN M (zS Z))
theorem moX6_init_L126 (h : Nat) (v1 : Int32) (Z : q_Z) (M : q_C) (o : (Int32 × q_Z × q_C) ⊕ (q_Z × q_C)) (hf : fX6_init_L126 h v1 Z M = some o) : q_le Z (q_sm o (fun x => x.2.1) (fun x => x.1)) := by
  unfold fX6_init_L126 at hf
  obtain ⟨-, hf⟩ := q_gdE hf
  obtain ⟨a_46, -, hf⟩ := q_biE hf
  obtain ⟨-, hf⟩ := q_gdE hf
  rcases q_ifC hf with hf | hf
  · cases hf
    exact q_le.rf
  · obtain ⟨a_49, -, hf⟩ := q_biE hf
    obtain ⟨-, hf⟩ := q_gdE hf
    exact (q_le.nw (kd := 12) (n := 5)).tr (moX6_init_b143 _ _ _ _ _ _ _ _ hf)
theorem moX6_init_l126 (h : Nat) (n : Nat) (x : Int32 × q_Z × q_C) (r : (q_Z × q_C)) (hf : q_it (fun x => fX6_init_L126 h x.1 x.2.1 x.2.2) n x = some r) : q_le ((fun x => x.2.1) x) ((fun x => x.1) r) := by
  exact q_itmo _ (fun x => x.2.1) (fun x => x.1) (fun x o hx => moX6_init_L126 _ _ _ _ o hx) n x r hf
set_option maxHeartbeats 4000000 in
set_option maxRecDepth 100000 in
theorem lX6_init_126 {Q : State → Prop} (E : q_E p s m meth c cX6_init 2 RX6 none "<init>" D cA) (hR : 3 ≤ R.frames ∧ 60 ≤ R.locals) (Zi : q_Z)  (h : Nat) : ∀ (n : Nat) (v1 : Int32) (Z : q_Z) (M : q_C) (H : Heap) (locs : List Loc) (ls : Array Slot) (r : (q_Z × q_C)), q_it (fun x => fX6_init_L126 h x.1 x.2.1 x.2.2) n (v1, Z, M) = some r → zS ((fun x => x.1) r) - zS Zi ≤ R.cells ∧ zC ((fun x => x.1) r) - zC Zi ≤ R.slots → q_Hh D cA z0 s Z M H locs → lv_has ls 2 [(0, .ref h), (1, .int v1)] → q_le Zi Z → (kx0 : ∀ (Z1 : q_Z) (M1 : q_C) (H : Heap) (locs : List Loc) (ls : Array Slot), (Z1, M1) = r → q_Hh D cA z0 s Z1 M1 H locs → lv_has ls 2 [] → q_le Zi Z1 → W p l e R s m args below meth c H locs (zS Z1 - zS Zi) (zC Z1 - zC Zi) Q (F0 m 154 ls [])) → W p l e R s m args below meth c H locs (zS Z - zS Zi) (zC Z - zC Zi) Q (F0 m 126 ls []) := by
  have hx := E.1
  have hb := E.2.1
  have hown := E.2.2.2.1
  have hT := E.2.2.2.2.2.2.2.1
  intro n
  induction n with
  | zero =>
    intro v1 Z M H locs ls r hf
    cases hf
  | succ n ih =>
    intro v1 Z M H locs ls r hf hbr hH hl hi ky0
    obtain ⟨n1, o, hn, hf, ho⟩ := q_itE hf
    cases hn
    have hf : fX6_init_L126 h v1 Z M = some o := hf
    have hbd : zS (q_sm o (fun x => x.2.1) (fun x => x.1)) - zS Zi ≤ R.cells ∧ zC (q_sm o (fun x => x.2.1) (fun x => x.1)) - zC Zi ≤ R.slots := by
      cases o with
      | inl y => exact q_bd (hi.tr (moX6_init_L126 _ _ _ _ _ hf)) (moX6_init_l126 _ _ _ _ ho) hbr
      | inr y => cases ho; exact hbr
    have hcc := q_bd hi (moX6_init_L126 _ _ _ _ _ hf) hbd
    have kb : ∀ (w1 : Int32) (Z1 : q_Z) (M1 : q_C) (H : Heap) (locs : List Loc) (ls : Array Slot), Sum.inl (w1, Z1, M1) = o → q_Hh D cA z0 s Z1 M1 H locs → lv_has ls 2 [(0, .ref h), (1, .int w1)] → q_le Zi Z1 → W p l e R s m args below meth c H locs (zS Z1 - zS Zi) (zC Z1 - zC Zi) Q (F0 m 126 ls []) := by
      intro w1 Z1 M1 H locs ls e hH hl hi
      subst e
      exact ih w1 Z1 M1 H locs ls r ho hbr hH hl hi ky0
    have kx0 : ∀ (Z1 : q_Z) (M1 : q_C) (H : Heap) (locs : List Loc) (ls : Array Slot), Sum.inr (Z1, M1) = o → q_Hh D cA z0 s Z1 M1 H locs → lv_has ls 2 [] → q_le Zi Z1 → W p l e R s m args below meth c H locs (zS Z1 - zS Zi) (zC Z1 - zC Zi) Q (F0 m 154 ls []) := by
      intro Z1 M1 H locs ls e hH hl hi
      subst e
      exact ky0 Z1 M1 H locs ls ho hH hl hi
    unfold fX6_init_L126 at hf
    refine lv_iload_n hx hb dX6_init_126 rfl (lv_at hl 1 rfl) ?_
    refine lv_aload_n hx hb dX6_init_127 rfl (lv_at hl 0 rfl) ?_
    obtain ⟨hk_45, hf⟩ := q_gdE hf
    have hk_45 := q_keq hk_45
    refine q_getR E hH (ci := 6) rfl 2 (by decide) kF_X6_21 (fun _ _ _ => rfl) hk_45 dX6_init_128 ?_
    obtain ⟨a_46, he_47, hf⟩ := q_biE hf
    rw [he_47]
    obtain ⟨hk_48, hf⟩ := q_gdE hf
    have hk_48 := q_keq hk_48
    refine q_alen3 E hH hk_48 dX6_init_131 ?_
    refine lv_icmp_ge (tgt := 154) hx hb dX6_init_132 (by decide) (fun cc_59 => ?_) (fun cc_59 => ?_)
    · replace hf := q_ifT cc_59 hf
      clear cc_59
      cases hf
      exact kx0 Z M _ _ _ rfl hH (lv_sub hl [] rfl) hi
    · replace hf := q_ifF cc_59 hf
      clear cc_59
      refine lv_aload_n hx hb dX6_init_135 rfl (lv_at hl 0 rfl) ?_
      refine q_getR E hH (ci := 6) rfl 2 (by decide) kF_X6_21 (fun _ _ _ => rfl) hk_45 dX6_init_136 ?_
      obtain ⟨a_49, he_50, hf⟩ := q_biE hf
      rw [he_50]
      refine lv_iload_n hx hb dX6_init_139 rfl (lv_at hl 1 rfl) ?_
      obtain ⟨hz_51, hf⟩ := q_gdE hf
      have hz_51 := q_keq hz_51
      have hq : q_le (zN Z 12 5) (q_sm o (fun x => x.2.1) (fun x => x.1)) := moX6_init_b143 _ _ _ _ _ _ _ _ hf
      refine q_new E hH (ci := 2) rfl kC_X6_19 kI_X2 kN_X2 hz_51 (q_nwb (kd := 12) (n := 5) hi hq hbd) dX6_init_140 (fun H hH => ?_)
      refine q_wc (c1 := zS (zN Z 12 5) - zS Zi) (s1 := zC (zN Z 12 5) - zC Zi) (q_bn1 hi) (q_bn2 hi) ?_
      exact bX6_init_143 E hR Zi (hi.tr q_le.nw) hbd h v1 (zS Z) v1 a_49 (cN M (zS Z)) _ _ _  hf hH (lv_sub hl [0, 1] rfl) kb kx0
def fX6_init_b154 (h : Nat) (Z : q_Z) (M : q_C) : Option (q_Z × q_C) :=
  some (Z, M)
theorem moX6_init_b154 (h : Nat) (Z : q_Z) (M : q_C) (Z' : q_Z) (M' : q_C) (hf : fX6_init_b154 h Z M = some (Z', M')) : q_le Z Z' := by
  unfold fX6_init_b154 at hf
  cases hf
  exact q_le.rf
set_option maxHeartbeats 4000000 in
set_option maxRecDepth 100000 in
theorem bX6_init_154 (E : q_E p s m meth c cX6_init 2 RX6 none "<init>" D cA) (hR : 3 ≤ R.frames ∧ 60 ≤ R.locals) (Zi : q_Z) {Z : q_Z} (hi : q_le Zi Z) {Z' : q_Z} {M' : q_C} (hbd : zS Z' - zS Zi ≤ R.cells ∧ zC Z' - zC Zi ≤ R.slots)  (h : Nat) (M : q_C) (H : Heap) (locs : List Loc) (ls : Array Slot) (hf : fX6_init_b154 h Z M = some (Z', M')) (hH : q_Hh D cA z0 s Z M H locs) (hl : lv_has ls 2 [])  : W p l e R s m args below meth c H locs (zS Z - zS Zi) (zC Z - zC Zi) (MQ below (q_Q D cA z0 none Z' M') args s (zS Z' - zS Zi) (zC Z' - zC Zi) (fun q => z0 ≤ q)) (F0 m 154 ls []) := by
  have hx := E.1
  have hb := E.2.1
  have hown := E.2.2.2.1
  have hT := E.2.2.2.2.2.2.2.1
  have hcc := q_bd hi (moX6_init_b154 _ _ _ _ _ hf) hbd
  unfold fX6_init_b154 at hf
  cases hf
  exact q_vret E hH dX6_init_154
def fX6_init_b121 (h : Nat) (s0 : Nat) (s1 : Nat) (Z : q_Z) (M : q_C) : Option (q_Z × q_C) :=
  q_gd (zK Z s1 == 16) <|
  q_nm (sR M s1 14 (some s0)) fun M_44 =>
  Option.bind (q_it (fun x => fX6_init_L126 h x.1 x.2.1 x.2.2) q_FU ((0 : Int32), Z, M_44)) fun r_60 =>
  q_nm r_60.1 fun Z_62 =>
  q_nm r_60.2 fun M_63 =>
  fX6_init_b154 h Z_62 M_63
theorem moX6_init_b121 (h : Nat) (s0 : Nat) (s1 : Nat) (Z : q_Z) (M : q_C) (Z' : q_Z) (M' : q_C) (hf : fX6_init_b121 h s0 s1 Z M = some (Z', M')) : q_le Z Z' := by
  unfold fX6_init_b121 at hf
  obtain ⟨-, hf⟩ := q_gdE hf
  replace hf := q_nmE (x := _) rfl hf
  obtain ⟨r_60, hr_61, hf⟩ := q_biE hf
  refine (moX6_init_l126 _ _ _ _ hr_61).tr ?_
  replace hf := q_nmE (x := _) rfl hf
  replace hf := q_nmE (x := _) rfl hf
  exact moX6_init_b154 _ _ _ _ _ hf
set_option maxHeartbeats 4000000 in
set_option maxRecDepth 100000 in
theorem bX6_init_121 (E : q_E p s m meth c cX6_init 2 RX6 none "<init>" D cA) (hR : 3 ≤ R.frames ∧ 60 ≤ R.locals) (Zi : q_Z) {Z : q_Z} (hi : q_le Zi Z) {Z' : q_Z} {M' : q_C} (hbd : zS Z' - zS Zi ≤ R.cells ∧ zC Z' - zC Zi ≤ R.slots)  (h : Nat) (s0 : Nat) (s1 : Nat) (M : q_C) (H : Heap) (locs : List Loc) (ls : Array Slot) (hf : fX6_init_b121 h s0 s1 Z M = some (Z', M')) (hH : q_Hh D cA z0 s Z M H locs) (hl : lv_has ls 2 [(0, .ref h)])  : W p l e R s m args below meth c H locs (zS Z - zS Zi) (zC Z - zC Zi) (MQ below (q_Q D cA z0 none Z' M') args s (zS Z' - zS Zi) (zC Z' - zC Zi) (fun q => z0 ≤ q)) (F0 m 121 ls [.ref s0, .ref s1]) := by
  have hx := E.1
  have hb := E.2.1
  have hown := E.2.2.2.1
  have hT := E.2.2.2.2.2.2.2.1
  have hcc := q_bd hi (moX6_init_b121 _ _ _ _ _ _ _ hf) hbd
  unfold fX6_init_b121 at hf
  obtain ⟨hk_43, hf⟩ := q_gdE hf
  have hk_43 := q_keq hk_43
  refine q_putRF E hH (ci := 6) rfl 14 (by decide) kF_X6_71 rfl rfl rfl (fun _ _ _ => rfl) (x := (some s0)) hk_43 (q_rff _ "CometBench$Patch" _ (Or.inl rfl)).1 (q_rff _ "CometBench$Patch" _ (Or.inl rfl)).2 dX6_init_121 hf (fun M_44 H locs hH hf => ?_)
  refine lv_iconst (v := 0) hx hb dX6_init_124 (by decide) ?_
  refine lv_istore_n (lv' := [(1, .int (0 : Int32)), (0, .ref h)]) hx hb dX6_init_125 rfl hl (by decide) rfl (fun ls hl => ?_)
  obtain ⟨r_60, hr_61, hf⟩ := q_biE hf
  refine lX6_init_126 E hR Zi h q_FU (0 : Int32) Z M_44 _ _ _ r_60 hr_61 ?_ hH (lv_sub hl [1, 0] rfl) hi (fun Z_62 M_63 H locs ls he_64 hH hl hi => ?_)
  · refine q_bd (hi.tr (moX6_init_l126 _ _ _ _ hr_61)) ?_ hbd
    replace hf := q_nmE (x := _) rfl hf
    replace hf := q_nmE (x := _) rfl hf
    exact moX6_init_b154 _ _ _ _ _ hf
  · subst he_64
    replace hf := q_nmE (x := Z_62) rfl hf
    replace hf := q_nmE (x := M_63) rfl hf
    exact bX6_init_154 E hR Zi hi hbd h M_63 _ _ _  hf hH (lv_sub hl [] rfl)
def fX6_init_b117 (h : Nat) (s0 : Nat) (s1 : Nat) (Z : q_Z) (M : q_C) : Option (q_Z × q_C) :=
  q_b2 (fX1_init s0 Z M) fun Z_42 M_41 =>
  fX6_init_b121 h s0 s1 Z_42 M_41
theorem moX6_init_b117 (h : Nat) (s0 : Nat) (s1 : Nat) (Z : q_Z) (M : q_C) (Z' : q_Z) (M' : q_C) (hf : fX6_init_b117 h s0 s1 Z M = some (Z', M')) : q_le Z Z' := by
  unfold fX6_init_b117 at hf
  obtain ⟨Z_42, M_41, hw_40, hf⟩ := q_b2E hf
  have hq := moX1_init _ _ _ _ _ hw_40
  exact hq.tr (moX6_init_b121 _ _ _ _ _ _ _ hf)
set_option maxHeartbeats 4000000 in
set_option maxRecDepth 100000 in
theorem bX6_init_117 (E : q_E p s m meth c cX6_init 2 RX6 none "<init>" D cA) (hR : 3 ≤ R.frames ∧ 60 ≤ R.locals) (Zi : q_Z) {Z : q_Z} (hi : q_le Zi Z) {Z' : q_Z} {M' : q_C} (hbd : zS Z' - zS Zi ≤ R.cells ∧ zC Z' - zC Zi ≤ R.slots)  (h : Nat) (s0 : Nat) (s1 : Nat) (M : q_C) (H : Heap) (locs : List Loc) (ls : Array Slot) (hf : fX6_init_b117 h s0 s1 Z M = some (Z', M')) (hH : q_Hh D cA z0 s Z M H locs) (hl : lv_has ls 2 [(0, .ref h)])  : W p l e R s m args below meth c H locs (zS Z - zS Zi) (zC Z - zC Zi) (MQ below (q_Q D cA z0 none Z' M') args s (zS Z' - zS Zi) (zC Z' - zC Zi) (fun q => z0 ≤ q)) (F0 m 117 ls [.ref s0, .ref s1]) := by
  have hx := E.1
  have hb := E.2.1
  have hown := E.2.2.2.1
  have hT := E.2.2.2.2.2.2.2.1
  have hcc := q_bd hi (moX6_init_b117 _ _ _ _ _ _ _ hf) hbd
  unfold fX6_init_b117 at hf
  refine lv_dup hx hb dX6_init_117 rfl ?_
  obtain ⟨Z_42, M_41, hw_40, hf⟩ := q_b2E hf
  have hq1 := (moX1_init _ _ _ _ _ hw_40)
  have hq := moX6_init_b121 _ _ _ _ _ _ _ hf
  refine q_cIN (As := []) (rest := [.ref s0, .ref s1]) (st1 := [.ref s0, .ref s1]) E hH (tX1_init l D cA z0 s0 Z M Z_42 M_41 hw_40) mw_X1_init mi_X1_init rfl kM_X6_70 (q_bs hi hq1 hq hbd) (q_be1 hi hq1) (q_be2 hi hq1) rfl hl.1 rfl rfl (Nat.le_of_ble_eq_true rfl) ⟨Nat.le_trans (by decide) hR.1, Nat.le_trans (by decide) hR.2⟩ dX6_init_118 (fun H locs hH => ?_)
  exact bX6_init_121 E hR Zi (hi.tr hq1) hbd h s0 s1 M_41 _ _ _  hf hH (lv_sub hl [0] rfl)
def fX6_init_b106 (h : Nat) (s0 : Nat) (s1 : Nat) (Z : q_Z) (M : q_C) : Option (q_Z × q_C) :=
  Option.bind (fX5_init s0 Z M) fun M_36 =>
  q_gd (zK Z s1 == 16) <|
  q_nm (sR M_36 s1 13 (some s0)) fun M_38 =>
  q_gd (zK Z (zS Z) == 0) <|
  fX6_init_b117 h (zS Z) h (zN Z 11 4) (cN M_38 (zS Z))
theorem moX6_init_b106 (h : Nat) (s0 : Nat) (s1 : Nat) (Z : q_Z) (M : q_C) (Z' : q_Z) (M' : q_C) (hf : fX6_init_b106 h s0 s1 Z M = some (Z', M')) : q_le Z Z' := by
  unfold fX6_init_b106 at hf
  obtain ⟨M_36, hw_35, hf⟩ := q_biE hf
  obtain ⟨-, hf⟩ := q_gdE hf
  replace hf := q_nmE (x := _) rfl hf
  obtain ⟨-, hf⟩ := q_gdE hf
  exact (q_le.nw (kd := 11) (n := 4)).tr (moX6_init_b117 _ _ _ _ _ _ _ hf)
set_option maxHeartbeats 4000000 in
set_option maxRecDepth 100000 in
theorem bX6_init_106 (E : q_E p s m meth c cX6_init 2 RX6 none "<init>" D cA) (hR : 3 ≤ R.frames ∧ 60 ≤ R.locals) (Zi : q_Z) {Z : q_Z} (hi : q_le Zi Z) {Z' : q_Z} {M' : q_C} (hbd : zS Z' - zS Zi ≤ R.cells ∧ zC Z' - zC Zi ≤ R.slots)  (h : Nat) (s0 : Nat) (s1 : Nat) (M : q_C) (H : Heap) (locs : List Loc) (ls : Array Slot) (hf : fX6_init_b106 h s0 s1 Z M = some (Z', M')) (hH : q_Hh D cA z0 s Z M H locs) (hl : lv_has ls 2 [(0, .ref h)])  : W p l e R s m args below meth c H locs (zS Z - zS Zi) (zC Z - zC Zi) (MQ below (q_Q D cA z0 none Z' M') args s (zS Z' - zS Zi) (zC Z' - zC Zi) (fun q => z0 ≤ q)) (F0 m 106 ls [.ref s0, .ref s1]) := by
  have hx := E.1
  have hb := E.2.1
  have hown := E.2.2.2.1
  have hT := E.2.2.2.2.2.2.2.1
  have hcc := q_bd hi (moX6_init_b106 _ _ _ _ _ _ _ hf) hbd
  unfold fX6_init_b106 at hf
  refine lv_dup hx hb dX6_init_106 rfl ?_
  obtain ⟨M_36, hw_35, hf⟩ := q_biE hf
  refine q_cIN (As := []) (rest := [.ref s0, .ref s1]) (st1 := [.ref s0, .ref s1]) E hH (tX5_init l D cA z0 s0 Z M M_36 hw_35) mw_X5_init mi_X5_init rfl kM_X6_63 hcc rfl rfl rfl hl.1 rfl rfl (Nat.le_of_ble_eq_true rfl) ⟨Nat.le_trans (by decide) hR.1, Nat.le_trans (by decide) hR.2⟩ dX6_init_107 (fun H locs hH => ?_)
  obtain ⟨hk_37, hf⟩ := q_gdE hf
  have hk_37 := q_keq hk_37
  refine q_putRF E hH (ci := 6) rfl 13 (by decide) kF_X6_64 rfl rfl rfl (fun _ _ _ => rfl) (x := (some s0)) hk_37 (q_rff _ "CometBench$Way" _ (Or.inl rfl)).1 (q_rff _ "CometBench$Way" _ (Or.inl rfl)).2 dX6_init_110 hf (fun M_38 H locs hH hf => ?_)
  refine lv_aload_n hx hb dX6_init_113 rfl (lv_at hl 0 rfl) ?_
  obtain ⟨hz_39, hf⟩ := q_gdE hf
  have hz_39 := q_keq hz_39
  have hq : q_le (zN Z 11 4) Z' := moX6_init_b117 _ _ _ _ _ _ _ hf
  refine q_new E hH (ci := 1) rfl kC_X6_68 kI_X1 kN_X1 hz_39 (q_nwb (kd := 11) (n := 4) hi hq hbd) dX6_init_114 (fun H hH => ?_)
  refine q_wc (c1 := zS (zN Z 11 4) - zS Zi) (s1 := zC (zN Z 11 4) - zC Zi) (q_bn1 hi) (q_bn2 hi) ?_
  exact bX6_init_117 E hR Zi (hi.tr q_le.nw) hbd h (zS Z) h (cN M_38 (zS Z)) _ _ _  hf hH (lv_sub hl [0] rfl)
def fX6_init_b95 (h : Nat) (s0 : Nat) (s1 : Nat) (Z : q_Z) (M : q_C) : Option (q_Z × q_C) :=
  Option.bind (fX0_init s0 Z M) fun M_31 =>
  q_gd (zK Z s1 == 16) <|
  q_nm (sR M_31 s1 12 (some s0)) fun M_33 =>
  q_gd (zK Z (zS Z) == 0) <|
  fX6_init_b106 h (zS Z) h (zN Z 15 11) (cN M_33 (zS Z))
theorem moX6_init_b95 (h : Nat) (s0 : Nat) (s1 : Nat) (Z : q_Z) (M : q_C) (Z' : q_Z) (M' : q_C) (hf : fX6_init_b95 h s0 s1 Z M = some (Z', M')) : q_le Z Z' := by
  unfold fX6_init_b95 at hf
  obtain ⟨M_31, hw_30, hf⟩ := q_biE hf
  obtain ⟨-, hf⟩ := q_gdE hf
  replace hf := q_nmE (x := _) rfl hf
  obtain ⟨-, hf⟩ := q_gdE hf
  exact (q_le.nw (kd := 15) (n := 11)).tr (moX6_init_b106 _ _ _ _ _ _ _ hf)
set_option maxHeartbeats 4000000 in
set_option maxRecDepth 100000 in
theorem bX6_init_95 (E : q_E p s m meth c cX6_init 2 RX6 none "<init>" D cA) (hR : 3 ≤ R.frames ∧ 60 ≤ R.locals) (Zi : q_Z) {Z : q_Z} (hi : q_le Zi Z) {Z' : q_Z} {M' : q_C} (hbd : zS Z' - zS Zi ≤ R.cells ∧ zC Z' - zC Zi ≤ R.slots)  (h : Nat) (s0 : Nat) (s1 : Nat) (M : q_C) (H : Heap) (locs : List Loc) (ls : Array Slot) (hf : fX6_init_b95 h s0 s1 Z M = some (Z', M')) (hH : q_Hh D cA z0 s Z M H locs) (hl : lv_has ls 2 [(0, .ref h)])  : W p l e R s m args below meth c H locs (zS Z - zS Zi) (zC Z - zC Zi) (MQ below (q_Q D cA z0 none Z' M') args s (zS Z' - zS Zi) (zC Z' - zC Zi) (fun q => z0 ≤ q)) (F0 m 95 ls [.ref s0, .ref s1]) := by
  have hx := E.1
  have hb := E.2.1
  have hown := E.2.2.2.1
  have hT := E.2.2.2.2.2.2.2.1
  have hcc := q_bd hi (moX6_init_b95 _ _ _ _ _ _ _ hf) hbd
  unfold fX6_init_b95 at hf
  refine lv_dup hx hb dX6_init_95 rfl ?_
  obtain ⟨M_31, hw_30, hf⟩ := q_biE hf
  refine q_cIN (As := []) (rest := [.ref s0, .ref s1]) (st1 := [.ref s0, .ref s1]) E hH (tX0_init l D cA z0 s0 Z M M_31 hw_30) mw_X0_init mi_X0_init rfl kM_X6_58 hcc rfl rfl rfl hl.1 rfl rfl (Nat.le_of_ble_eq_true rfl) ⟨Nat.le_trans (by decide) hR.1, Nat.le_trans (by decide) hR.2⟩ dX6_init_96 (fun H locs hH => ?_)
  obtain ⟨hk_32, hf⟩ := q_gdE hf
  have hk_32 := q_keq hk_32
  refine q_putRF E hH (ci := 6) rfl 12 (by decide) kF_X6_59 rfl rfl rfl (fun _ _ _ => rfl) (x := (some s0)) hk_32 (q_rff _ "CometBench$Comet" _ (Or.inl rfl)).1 (q_rff _ "CometBench$Comet" _ (Or.inl rfl)).2 dX6_init_99 hf (fun M_33 H locs hH hf => ?_)
  refine lv_aload_n hx hb dX6_init_102 rfl (lv_at hl 0 rfl) ?_
  obtain ⟨hz_34, hf⟩ := q_gdE hf
  have hz_34 := q_keq hz_34
  have hq : q_le (zN Z 15 11) Z' := moX6_init_b106 _ _ _ _ _ _ _ hf
  refine q_new E hH (ci := 5) rfl kC_X6_44 kI_X5 kN_X5 hz_34 (q_nwb (kd := 15) (n := 11) hi hq hbd) dX6_init_103 (fun H hH => ?_)
  refine q_wc (c1 := zS (zN Z 15 11) - zS Zi) (s1 := zC (zN Z 15 11) - zC Zi) (q_bn1 hi) (q_bn2 hi) ?_
  exact bX6_init_106 E hR Zi (hi.tr q_le.nw) hbd h (zS Z) h (cN M_33 (zS Z)) _ _ _  hf hH (lv_sub hl [0] rfl)
def fX6_init_b76 (h : Nat) (s0 : Nat) (s1 : Nat) (Z : q_Z) (M : q_C) : Option (q_Z × q_C) :=
  q_gd (zK Z s1 == 16) <|
  q_nm (sR M s1 9 (some s0)) fun M_25 =>
  q_gd (zK Z h == 16) <|
  q_nm (sI M_25 h 10 (-1 : Int32)) fun M_27 =>
  q_nm (sI M_27 h 11 (-1000 : Int32)) fun M_28 =>
  q_gd (zK Z (zS Z) == 0) <|
  fX6_init_b95 h (zS Z) h (zN Z 10 6) (cN M_28 (zS Z))
theorem moX6_init_b76 (h : Nat) (s0 : Nat) (s1 : Nat) (Z : q_Z) (M : q_C) (Z' : q_Z) (M' : q_C) (hf : fX6_init_b76 h s0 s1 Z M = some (Z', M')) : q_le Z Z' := by
  unfold fX6_init_b76 at hf
  obtain ⟨-, hf⟩ := q_gdE hf
  replace hf := q_nmE (x := _) rfl hf
  obtain ⟨-, hf⟩ := q_gdE hf
  replace hf := q_nmE (x := _) rfl hf
  replace hf := q_nmE (x := _) rfl hf
  obtain ⟨-, hf⟩ := q_gdE hf
  exact (q_le.nw (kd := 10) (n := 6)).tr (moX6_init_b95 _ _ _ _ _ _ _ hf)
set_option maxHeartbeats 4000000 in
set_option maxRecDepth 100000 in
theorem bX6_init_76 (E : q_E p s m meth c cX6_init 2 RX6 none "<init>" D cA) (hR : 3 ≤ R.frames ∧ 60 ≤ R.locals) (Zi : q_Z) {Z : q_Z} (hi : q_le Zi Z) {Z' : q_Z} {M' : q_C} (hbd : zS Z' - zS Zi ≤ R.cells ∧ zC Z' - zC Zi ≤ R.slots)  (h : Nat) (s0 : Nat) (s1 : Nat) (M : q_C) (H : Heap) (locs : List Loc) (ls : Array Slot) (hf : fX6_init_b76 h s0 s1 Z M = some (Z', M')) (hH : q_Hh D cA z0 s Z M H locs) (hl : lv_has ls 2 [(0, .ref h)])  : W p l e R s m args below meth c H locs (zS Z - zS Zi) (zC Z - zC Zi) (MQ below (q_Q D cA z0 none Z' M') args s (zS Z' - zS Zi) (zC Z' - zC Zi) (fun q => z0 ≤ q)) (F0 m 76 ls [.ref s0, .ref s1]) := by
  have hx := E.1
  have hb := E.2.1
  have hown := E.2.2.2.1
  have hT := E.2.2.2.2.2.2.2.1
  have hcc := q_bd hi (moX6_init_b76 _ _ _ _ _ _ _ hf) hbd
  unfold fX6_init_b76 at hf
  obtain ⟨hk_24, hf⟩ := q_gdE hf
  have hk_24 := q_keq hk_24
  refine q_putRF E hH (ci := 6) rfl 9 (by decide) kF_X6_46 rfl rfl rfl (fun _ _ _ => rfl) (x := (some s0)) hk_24 (q_rff _ "" _ (Or.inr ⟨_, rfl⟩)).1 (q_rff _ "" _ (Or.inr ⟨_, rfl⟩)).2 dX6_init_76 hf (fun M_25 H locs hH hf => ?_)
  refine lv_aload_n hx hb dX6_init_79 rfl (lv_at hl 0 rfl) ?_
  refine lv_iconst (v := -1) hx hb dX6_init_80 (by decide) ?_
  obtain ⟨hk_26, hf⟩ := q_gdE hf
  have hk_26 := q_keq hk_26
  refine q_putI E hH (ci := 6) rfl 10 (by decide) kF_X6_50 rfl (fun _ _ _ => rfl) (x := (-1 : Int32)) hk_26 rfl rfl dX6_init_81 hf (fun M_27 H locs hH hf => ?_)
  refine lv_aload_n hx hb dX6_init_84 rfl (lv_at hl 0 rfl) ?_
  refine lv_sipush (v := -1000) hx hb dX6_init_85 (by decide) ?_
  refine q_putI E hH (ci := 6) rfl 11 (by decide) kF_X6_53 rfl (fun _ _ _ => rfl) (x := (-1000 : Int32)) hk_26 rfl rfl dX6_init_88 hf (fun M_28 H locs hH hf => ?_)
  refine lv_aload_n hx hb dX6_init_91 rfl (lv_at hl 0 rfl) ?_
  obtain ⟨hz_29, hf⟩ := q_gdE hf
  have hz_29 := q_keq hz_29
  have hq : q_le (zN Z 10 6) Z' := moX6_init_b95 _ _ _ _ _ _ _ hf
  refine q_new E hH (ci := 0) rfl kC_X6_56 kI_X0 kN_X0 hz_29 (q_nwb (kd := 10) (n := 6) hi hq hbd) dX6_init_92 (fun H hH => ?_)
  refine q_wc (c1 := zS (zN Z 10 6) - zS Zi) (s1 := zC (zN Z 10 6) - zC Zi) (q_bn1 hi) (q_bn2 hi) ?_
  exact bX6_init_95 E hR Zi (hi.tr q_le.nw) hbd h (zS Z) h (cN M_28 (zS Z)) _ _ _  hf hH (lv_sub hl [0] rfl)
def fX6_init_b32 (h : Nat) (s0 : Nat) (s1 : Nat) (Z : q_Z) (M : q_C) : Option (q_Z × q_C) :=
  q_gd (zK Z s1 == 16) <|
  q_nm (sR M s1 2 (some s0)) fun M_15 =>
  q_gd (zK Z h == 16) <|
  q_nm (sI M_15 h 3 (0 : Int32)) fun M_17 =>
  q_nm (sI M_17 h 4 (-1 : Int32)) fun M_18 =>
  q_nm (sI M_18 h 5 (-1 : Int32)) fun M_19 =>
  q_nm (sI M_19 h 6 (500 : Int32)) fun M_20 =>
  q_nm (sI M_20 h 7 (500 : Int32)) fun M_21 =>
  q_nm (sI M_21 h 8 (6 : Int32)) fun M_22 =>
  q_gd (zK Z (zS Z) == 0) <|
  fX6_init_b76 h (zS Z) h (zN Z 4 100) (cN M_22 (zS Z))
theorem moX6_init_b32 (h : Nat) (s0 : Nat) (s1 : Nat) (Z : q_Z) (M : q_C) (Z' : q_Z) (M' : q_C) (hf : fX6_init_b32 h s0 s1 Z M = some (Z', M')) : q_le Z Z' := by
  unfold fX6_init_b32 at hf
  obtain ⟨-, hf⟩ := q_gdE hf
  replace hf := q_nmE (x := _) rfl hf
  obtain ⟨-, hf⟩ := q_gdE hf
  replace hf := q_nmE (x := _) rfl hf
  replace hf := q_nmE (x := _) rfl hf
  replace hf := q_nmE (x := _) rfl hf
  replace hf := q_nmE (x := _) rfl hf
  replace hf := q_nmE (x := _) rfl hf
  replace hf := q_nmE (x := _) rfl hf
  obtain ⟨-, hf⟩ := q_gdE hf
  exact (q_le.nw (kd := 4) (n := 100)).tr (moX6_init_b76 _ _ _ _ _ _ _ hf)
set_option maxHeartbeats 4000000 in
set_option maxRecDepth 100000 in
theorem bX6_init_32 (E : q_E p s m meth c cX6_init 2 RX6 none "<init>" D cA) (hR : 3 ≤ R.frames ∧ 60 ≤ R.locals) (Zi : q_Z) {Z : q_Z} (hi : q_le Zi Z) {Z' : q_Z} {M' : q_C} (hbd : zS Z' - zS Zi ≤ R.cells ∧ zC Z' - zC Zi ≤ R.slots)  (h : Nat) (s0 : Nat) (s1 : Nat) (M : q_C) (H : Heap) (locs : List Loc) (ls : Array Slot) (hf : fX6_init_b32 h s0 s1 Z M = some (Z', M')) (hH : q_Hh D cA z0 s Z M H locs) (hl : lv_has ls 2 [(0, .ref h)])  : W p l e R s m args below meth c H locs (zS Z - zS Zi) (zC Z - zC Zi) (MQ below (q_Q D cA z0 none Z' M') args s (zS Z' - zS Zi) (zC Z' - zC Zi) (fun q => z0 ≤ q)) (F0 m 32 ls [.ref s0, .ref s1]) := by
  have hx := E.1
  have hb := E.2.1
  have hown := E.2.2.2.1
  have hT := E.2.2.2.2.2.2.2.1
  have hcc := q_bd hi (moX6_init_b32 _ _ _ _ _ _ _ hf) hbd
  unfold fX6_init_b32 at hf
  obtain ⟨hk_14, hf⟩ := q_gdE hf
  have hk_14 := q_keq hk_14
  refine q_putRF E hH (ci := 6) rfl 2 (by decide) kF_X6_21 rfl rfl rfl (fun _ _ _ => rfl) (x := (some s0)) hk_14 (q_rff _ "" _ (Or.inr ⟨_, rfl⟩)).1 (q_rff _ "" _ (Or.inr ⟨_, rfl⟩)).2 dX6_init_32 hf (fun M_15 H locs hH hf => ?_)
  refine lv_aload_n hx hb dX6_init_35 rfl (lv_at hl 0 rfl) ?_
  refine lv_iconst (v := 0) hx hb dX6_init_36 (by decide) ?_
  obtain ⟨hk_16, hf⟩ := q_gdE hf
  have hk_16 := q_keq hk_16
  refine q_putI E hH (ci := 6) rfl 3 (by decide) kF_X6_25 rfl (fun _ _ _ => rfl) (x := (0 : Int32)) hk_16 rfl rfl dX6_init_37 hf (fun M_17 H locs hH hf => ?_)
  refine lv_aload_n hx hb dX6_init_40 rfl (lv_at hl 0 rfl) ?_
  refine lv_iconst (v := -1) hx hb dX6_init_41 (by decide) ?_
  refine q_putI E hH (ci := 6) rfl 4 (by decide) kF_X6_29 rfl (fun _ _ _ => rfl) (x := (-1 : Int32)) hk_16 rfl rfl dX6_init_42 hf (fun M_18 H locs hH hf => ?_)
  refine lv_aload_n hx hb dX6_init_45 rfl (lv_at hl 0 rfl) ?_
  refine lv_iconst (v := -1) hx hb dX6_init_46 (by decide) ?_
  refine q_putI E hH (ci := 6) rfl 5 (by decide) kF_X6_32 rfl (fun _ _ _ => rfl) (x := (-1 : Int32)) hk_16 rfl rfl dX6_init_47 hf (fun M_19 H locs hH hf => ?_)
  refine lv_aload_n hx hb dX6_init_50 rfl (lv_at hl 0 rfl) ?_
  refine lv_sipush (v := 500) hx hb dX6_init_51 (by decide) ?_
  refine q_putI E hH (ci := 6) rfl 6 (by decide) kF_X6_35 rfl (fun _ _ _ => rfl) (x := (500 : Int32)) hk_16 rfl rfl dX6_init_54 hf (fun M_20 H locs hH hf => ?_)
  refine lv_aload_n hx hb dX6_init_57 rfl (lv_at hl 0 rfl) ?_
  refine lv_sipush (v := 500) hx hb dX6_init_58 (by decide) ?_
  refine q_putI E hH (ci := 6) rfl 7 (by decide) kF_X6_38 rfl (fun _ _ _ => rfl) (x := (500 : Int32)) hk_16 rfl rfl dX6_init_61 hf (fun M_21 H locs hH hf => ?_)
  refine lv_aload_n hx hb dX6_init_64 rfl (lv_at hl 0 rfl) ?_
  refine lv_bipush (v := 6) hx hb dX6_init_65 (by decide) ?_
  refine q_putI E hH (ci := 6) rfl 8 (by decide) kF_X6_41 rfl (fun _ _ _ => rfl) (x := (6 : Int32)) hk_16 rfl rfl dX6_init_67 hf (fun M_22 H locs hH hf => ?_)
  refine lv_aload_n hx hb dX6_init_70 rfl (lv_at hl 0 rfl) ?_
  refine lv_bipush (v := 100) hx hb dX6_init_71 (by decide) ?_
  obtain ⟨hz_23, hf⟩ := q_gdE hf
  have hz_23 := q_keq hz_23
  have hq : q_le (zN Z 4 100) Z' := moX6_init_b76 _ _ _ _ _ _ _ hf
  refine q_anew4 (N := 100) E hH kC_X6_44 (by decide) (by decide) (by decide) hz_23 (q_nwb (kd := 4) (n := 100) hi hq hbd) dX6_init_73 (fun H hH => ?_)
  refine q_wc (c1 := zS (zN Z 4 100) - zS Zi) (s1 := zC (zN Z 4 100) - zC Zi) (q_bn1 hi) (q_bn2 hi) ?_
  exact bX6_init_76 E hR Zi (hi.tr q_le.nw) hbd h (zS Z) h (cN M_22 (zS Z)) _ _ _  hf hH (lv_sub hl [0] rfl)
def fX6_init_b23 (h : Nat) (s0 : Nat) (s1 : Nat) (Z : q_Z) (M : q_C) : Option (q_Z × q_C) :=
  q_gd (zK Z s1 == 16) <|
  q_nm (sR M s1 1 (some s0)) fun M_12 =>
  q_gd (zK Z (zS Z) == 0) <|
  fX6_init_b32 h (zS Z) h (zN Z 3 12) (cN M_12 (zS Z))
theorem moX6_init_b23 (h : Nat) (s0 : Nat) (s1 : Nat) (Z : q_Z) (M : q_C) (Z' : q_Z) (M' : q_C) (hf : fX6_init_b23 h s0 s1 Z M = some (Z', M')) : q_le Z Z' := by
  unfold fX6_init_b23 at hf
  obtain ⟨-, hf⟩ := q_gdE hf
  replace hf := q_nmE (x := _) rfl hf
  obtain ⟨-, hf⟩ := q_gdE hf
  exact (q_le.nw (kd := 3) (n := 12)).tr (moX6_init_b32 _ _ _ _ _ _ _ hf)
set_option maxHeartbeats 4000000 in
set_option maxRecDepth 100000 in
theorem bX6_init_23 (E : q_E p s m meth c cX6_init 2 RX6 none "<init>" D cA) (hR : 3 ≤ R.frames ∧ 60 ≤ R.locals) (Zi : q_Z) {Z : q_Z} (hi : q_le Zi Z) {Z' : q_Z} {M' : q_C} (hbd : zS Z' - zS Zi ≤ R.cells ∧ zC Z' - zC Zi ≤ R.slots)  (h : Nat) (s0 : Nat) (s1 : Nat) (M : q_C) (H : Heap) (locs : List Loc) (ls : Array Slot) (hf : fX6_init_b23 h s0 s1 Z M = some (Z', M')) (hH : q_Hh D cA z0 s Z M H locs) (hl : lv_has ls 2 [(0, .ref h)])  : W p l e R s m args below meth c H locs (zS Z - zS Zi) (zC Z - zC Zi) (MQ below (q_Q D cA z0 none Z' M') args s (zS Z' - zS Zi) (zC Z' - zC Zi) (fun q => z0 ≤ q)) (F0 m 23 ls [.ref s0, .ref s1]) := by
  have hx := E.1
  have hb := E.2.1
  have hown := E.2.2.2.1
  have hT := E.2.2.2.2.2.2.2.1
  have hcc := q_bd hi (moX6_init_b23 _ _ _ _ _ _ _ hf) hbd
  unfold fX6_init_b23 at hf
  obtain ⟨hk_11, hf⟩ := q_gdE hf
  have hk_11 := q_keq hk_11
  refine q_putRF E hH (ci := 6) rfl 1 (by decide) kF_X6_16 rfl rfl rfl (fun _ _ _ => rfl) (x := (some s0)) hk_11 (q_rff _ "CometBench$Sky" _ (Or.inl rfl)).1 (q_rff _ "CometBench$Sky" _ (Or.inl rfl)).2 dX6_init_23 hf (fun M_12 H locs hH hf => ?_)
  refine lv_aload_n hx hb dX6_init_26 rfl (lv_at hl 0 rfl) ?_
  refine lv_bipush (v := 12) hx hb dX6_init_27 (by decide) ?_
  obtain ⟨hz_13, hf⟩ := q_gdE hf
  have hz_13 := q_keq hz_13
  have hq : q_le (zN Z 3 12) Z' := moX6_init_b32 _ _ _ _ _ _ _ hf
  refine q_anew3 (N := 12) E hH kC_X6_19 (by decide) (by decide) (by decide) hz_13 (q_nwb (kd := 3) (n := 12) hi hq hbd) dX6_init_29 (fun H hH => ?_)
  refine q_wc (c1 := zS (zN Z 3 12) - zS Zi) (s1 := zC (zN Z 3 12) - zC Zi) (q_bn1 hi) (q_bn2 hi) ?_
  exact bX6_init_32 E hR Zi (hi.tr q_le.nw) hbd h (zS Z) h (cN M_12 (zS Z)) _ _ _  hf hH (lv_sub hl [0] rfl)
def fX6_init_b19 (h : Nat) (s0 : Nat) (s1 : Nat) (Z : q_Z) (M : q_C) : Option (q_Z × q_C) :=
  q_b2 (fX3_init s0 Z M) fun Z_10 M_9 =>
  fX6_init_b23 h s0 s1 Z_10 M_9
theorem moX6_init_b19 (h : Nat) (s0 : Nat) (s1 : Nat) (Z : q_Z) (M : q_C) (Z' : q_Z) (M' : q_C) (hf : fX6_init_b19 h s0 s1 Z M = some (Z', M')) : q_le Z Z' := by
  unfold fX6_init_b19 at hf
  obtain ⟨Z_10, M_9, hw_8, hf⟩ := q_b2E hf
  have hq := moX3_init _ _ _ _ _ hw_8
  exact hq.tr (moX6_init_b23 _ _ _ _ _ _ _ hf)
set_option maxHeartbeats 4000000 in
set_option maxRecDepth 100000 in
theorem bX6_init_19 (E : q_E p s m meth c cX6_init 2 RX6 none "<init>" D cA) (hR : 3 ≤ R.frames ∧ 60 ≤ R.locals) (Zi : q_Z) {Z : q_Z} (hi : q_le Zi Z) {Z' : q_Z} {M' : q_C} (hbd : zS Z' - zS Zi ≤ R.cells ∧ zC Z' - zC Zi ≤ R.slots)  (h : Nat) (s0 : Nat) (s1 : Nat) (M : q_C) (H : Heap) (locs : List Loc) (ls : Array Slot) (hf : fX6_init_b19 h s0 s1 Z M = some (Z', M')) (hH : q_Hh D cA z0 s Z M H locs) (hl : lv_has ls 2 [(0, .ref h)])  : W p l e R s m args below meth c H locs (zS Z - zS Zi) (zC Z - zC Zi) (MQ below (q_Q D cA z0 none Z' M') args s (zS Z' - zS Zi) (zC Z' - zC Zi) (fun q => z0 ≤ q)) (F0 m 19 ls [.ref s0, .ref s1]) := by
  have hx := E.1
  have hb := E.2.1
  have hown := E.2.2.2.1
  have hT := E.2.2.2.2.2.2.2.1
  have hcc := q_bd hi (moX6_init_b19 _ _ _ _ _ _ _ hf) hbd
  unfold fX6_init_b19 at hf
  refine lv_dup hx hb dX6_init_19 rfl ?_
  obtain ⟨Z_10, M_9, hw_8, hf⟩ := q_b2E hf
  have hq1 := (moX3_init _ _ _ _ _ hw_8)
  have hq := moX6_init_b23 _ _ _ _ _ _ _ hf
  refine q_cIN (As := []) (rest := [.ref s0, .ref s1]) (st1 := [.ref s0, .ref s1]) E hH (tX3_init l D cA z0 s0 Z M Z_10 M_9 hw_8) mw_X3_init mi_X3_init rfl kM_X6_11 (q_bs hi hq1 hq hbd) (q_be1 hi hq1) (q_be2 hi hq1) rfl hl.1 rfl rfl (Nat.le_of_ble_eq_true rfl) ⟨Nat.le_trans (by decide) hR.1, Nat.le_trans (by decide) hR.2⟩ dX6_init_20 (fun H locs hH => ?_)
  exact bX6_init_23 E hR Zi (hi.tr hq1) hbd h s0 s1 M_9 _ _ _  hf hH (lv_sub hl [0] rfl)
def fX6_init_b12 (h : Nat) (s0 : Nat) (s1 : Nat) (Z : q_Z) (M : q_C) : Option (q_Z × q_C) :=
  q_gd (zK Z s1 == 16) <|
  q_nm (sR M s1 0 (some s0)) fun M_6 =>
  q_gd (zK Z (zS Z) == 0) <|
  fX6_init_b19 h (zS Z) h (zN Z 13 4) (cN M_6 (zS Z))
theorem moX6_init_b12 (h : Nat) (s0 : Nat) (s1 : Nat) (Z : q_Z) (M : q_C) (Z' : q_Z) (M' : q_C) (hf : fX6_init_b12 h s0 s1 Z M = some (Z', M')) : q_le Z Z' := by
  unfold fX6_init_b12 at hf
  obtain ⟨-, hf⟩ := q_gdE hf
  replace hf := q_nmE (x := _) rfl hf
  obtain ⟨-, hf⟩ := q_gdE hf
  exact (q_le.nw (kd := 13) (n := 4)).tr (moX6_init_b19 _ _ _ _ _ _ _ hf)
set_option maxHeartbeats 4000000 in
set_option maxRecDepth 100000 in
theorem bX6_init_12 (E : q_E p s m meth c cX6_init 2 RX6 none "<init>" D cA) (hR : 3 ≤ R.frames ∧ 60 ≤ R.locals) (Zi : q_Z) {Z : q_Z} (hi : q_le Zi Z) {Z' : q_Z} {M' : q_C} (hbd : zS Z' - zS Zi ≤ R.cells ∧ zC Z' - zC Zi ≤ R.slots)  (h : Nat) (s0 : Nat) (s1 : Nat) (M : q_C) (H : Heap) (locs : List Loc) (ls : Array Slot) (hf : fX6_init_b12 h s0 s1 Z M = some (Z', M')) (hH : q_Hh D cA z0 s Z M H locs) (hl : lv_has ls 2 [(0, .ref h)])  : W p l e R s m args below meth c H locs (zS Z - zS Zi) (zC Z - zC Zi) (MQ below (q_Q D cA z0 none Z' M') args s (zS Z' - zS Zi) (zC Z' - zC Zi) (fun q => z0 ≤ q)) (F0 m 12 ls [.ref s0, .ref s1]) := by
  have hx := E.1
  have hb := E.2.1
  have hown := E.2.2.2.1
  have hT := E.2.2.2.2.2.2.2.1
  have hcc := q_bd hi (moX6_init_b12 _ _ _ _ _ _ _ hf) hbd
  unfold fX6_init_b12 at hf
  obtain ⟨hk_5, hf⟩ := q_gdE hf
  have hk_5 := q_keq hk_5
  refine q_putRF E hH (ci := 6) rfl 0 (by decide) kF_X6_12 rfl rfl rfl (fun _ _ _ => rfl) (x := (some s0)) hk_5 (q_rff _ "CometBench$Sky" _ (Or.inl rfl)).1 (q_rff _ "CometBench$Sky" _ (Or.inl rfl)).2 dX6_init_12 hf (fun M_6 H locs hH hf => ?_)
  refine lv_aload_n hx hb dX6_init_15 rfl (lv_at hl 0 rfl) ?_
  obtain ⟨hz_7, hf⟩ := q_gdE hf
  have hz_7 := q_keq hz_7
  have hq : q_le (zN Z 13 4) Z' := moX6_init_b19 _ _ _ _ _ _ _ hf
  refine q_new E hH (ci := 3) rfl kC_X6_9 kI_X3 kN_X3 hz_7 (q_nwb (kd := 13) (n := 4) hi hq hbd) dX6_init_16 (fun H hH => ?_)
  refine q_wc (c1 := zS (zN Z 13 4) - zS Zi) (s1 := zC (zN Z 13 4) - zC Zi) (q_bn1 hi) (q_bn2 hi) ?_
  exact bX6_init_19 E hR Zi (hi.tr q_le.nw) hbd h (zS Z) h (cN M_6 (zS Z)) _ _ _  hf hH (lv_sub hl [0] rfl)
def fX6_init_b8 (h : Nat) (s0 : Nat) (s1 : Nat) (Z : q_Z) (M : q_C) : Option (q_Z × q_C) :=
  q_b2 (fX3_init s0 Z M) fun Z_4 M_3 =>
  fX6_init_b12 h s0 s1 Z_4 M_3
theorem moX6_init_b8 (h : Nat) (s0 : Nat) (s1 : Nat) (Z : q_Z) (M : q_C) (Z' : q_Z) (M' : q_C) (hf : fX6_init_b8 h s0 s1 Z M = some (Z', M')) : q_le Z Z' := by
  unfold fX6_init_b8 at hf
  obtain ⟨Z_4, M_3, hw_2, hf⟩ := q_b2E hf
  have hq := moX3_init _ _ _ _ _ hw_2
  exact hq.tr (moX6_init_b12 _ _ _ _ _ _ _ hf)
set_option maxHeartbeats 4000000 in
set_option maxRecDepth 100000 in
theorem bX6_init_8 (E : q_E p s m meth c cX6_init 2 RX6 none "<init>" D cA) (hR : 3 ≤ R.frames ∧ 60 ≤ R.locals) (Zi : q_Z) {Z : q_Z} (hi : q_le Zi Z) {Z' : q_Z} {M' : q_C} (hbd : zS Z' - zS Zi ≤ R.cells ∧ zC Z' - zC Zi ≤ R.slots)  (h : Nat) (s0 : Nat) (s1 : Nat) (M : q_C) (H : Heap) (locs : List Loc) (ls : Array Slot) (hf : fX6_init_b8 h s0 s1 Z M = some (Z', M')) (hH : q_Hh D cA z0 s Z M H locs) (hl : lv_has ls 2 [(0, .ref h)])  : W p l e R s m args below meth c H locs (zS Z - zS Zi) (zC Z - zC Zi) (MQ below (q_Q D cA z0 none Z' M') args s (zS Z' - zS Zi) (zC Z' - zC Zi) (fun q => z0 ≤ q)) (F0 m 8 ls [.ref s0, .ref s1]) := by
  have hx := E.1
  have hb := E.2.1
  have hown := E.2.2.2.1
  have hT := E.2.2.2.2.2.2.2.1
  have hcc := q_bd hi (moX6_init_b8 _ _ _ _ _ _ _ hf) hbd
  unfold fX6_init_b8 at hf
  refine lv_dup hx hb dX6_init_8 rfl ?_
  obtain ⟨Z_4, M_3, hw_2, hf⟩ := q_b2E hf
  have hq1 := (moX3_init _ _ _ _ _ hw_2)
  have hq := moX6_init_b12 _ _ _ _ _ _ _ hf
  refine q_cIN (As := []) (rest := [.ref s0, .ref s1]) (st1 := [.ref s0, .ref s1]) E hH (tX3_init l D cA z0 s0 Z M Z_4 M_3 hw_2) mw_X3_init mi_X3_init rfl kM_X6_11 (q_bs hi hq1 hq hbd) (q_be1 hi hq1) (q_be2 hi hq1) rfl hl.1 rfl rfl (Nat.le_of_ble_eq_true rfl) ⟨Nat.le_trans (by decide) hR.1, Nat.le_trans (by decide) hR.2⟩ dX6_init_9 (fun H locs hH => ?_)
  exact bX6_init_12 E hR Zi (hi.tr hq1) hbd h s0 s1 M_3 _ _ _  hf hH (lv_sub hl [0] rfl)
def fX6_init (h : Nat) (Z : q_Z) (M : q_C) : Option (q_Z × q_C) :=
  q_gd (zK Z (zS Z) == 0) <|
  fX6_init_b8 h (zS Z) h (zN Z 13 4) (cN M (zS Z))
theorem moX6_init (h : Nat) (Z : q_Z) (M : q_C) (Z' : q_Z) (M' : q_C) (hf : fX6_init h Z M = some (Z', M')) : q_le Z Z' := by
  unfold fX6_init at hf
  obtain ⟨-, hf⟩ := q_gdE hf
  exact (q_le.nw (kd := 13) (n := 4)).tr (moX6_init_b8 _ _ _ _ _ _ _ hf)
set_option maxHeartbeats 4000000 in
set_option maxRecDepth 100000 in
theorem bX6_init_0 (E : q_E p s m meth c cX6_init 2 RX6 none "<init>" D cA) (hR : 3 ≤ R.frames ∧ 60 ≤ R.locals) (Zi : q_Z) {Z : q_Z} (hi : q_le Zi Z) {Z' : q_Z} {M' : q_C} (hbd : zS Z' - zS Zi ≤ R.cells ∧ zC Z' - zC Zi ≤ R.slots)  (h : Nat) (M : q_C) (H : Heap) (locs : List Loc) (ls : Array Slot) (hf : fX6_init h Z M = some (Z', M')) (hH : q_Hh D cA z0 s Z M H locs) (hl : lv_has ls 2 [(0, .ref h)])  : W p l e R s m args below meth c H locs (zS Z - zS Zi) (zC Z - zC Zi) (MQ below (q_Q D cA z0 none Z' M') args s (zS Z' - zS Zi) (zC Z' - zC Zi) (fun q => z0 ≤ q)) (F0 m 0 ls []) := by
  have hx := E.1
  have hb := E.2.1
  have hown := E.2.2.2.1
  have hT := E.2.2.2.2.2.2.2.1
  have hcc := q_bd hi (moX6_init _ _ _ _ _ hf) hbd
  unfold fX6_init at hf
  refine lv_aload_n hx hb dX6_init_0 rfl (lv_at hl 0 rfl) ?_
  refine q_oinit E kM_X6_3 kO_in kO_cd hl.1 (Nat.le_trans (by decide) hR.1) (Nat.le_trans (by decide) hR.2) dX6_init_1 ?_
  refine lv_aload_n hx hb dX6_init_4 rfl (lv_at hl 0 rfl) ?_
  obtain ⟨hz_1, hf⟩ := q_gdE hf
  have hz_1 := q_keq hz_1
  have hq : q_le (zN Z 13 4) Z' := moX6_init_b8 _ _ _ _ _ _ _ hf
  refine q_new E hH (ci := 3) rfl kC_X6_9 kI_X3 kN_X3 hz_1 (q_nwb (kd := 13) (n := 4) hi hq hbd) dX6_init_5 (fun H hH => ?_)
  refine q_wc (c1 := zS (zN Z 13 4) - zS Zi) (s1 := zC (zN Z 13 4) - zC Zi) (q_bn1 hi) (q_bn2 hi) ?_
  exact bX6_init_8 E hR Zi (hi.tr q_le.nw) hbd h (zS Z) h (cN M (zS Z)) _ _ _  hf hH (lv_sub hl [0] rfl)
set_option maxRecDepth 100000 in
theorem tX6_init (l : Launch) (D : va_G) (cA : Nat → ClassId) (z0 : Nat) (h : Nat) (Z : q_Z) (M : q_C) (Z' : q_Z) (M' : q_C) (hf : fX6_init h Z M = some (Z', M')) : q_Ct l D cA z0 yX6_init cX6_init 2 none 3 60 [.ref h] Z M none Z' M' (zS Z' - zS Z) (zC Z' - zC Z) := by
  (refine q_start (plainFor_of_name (by decide)) (Nat.le_of_ble_eq_true rfl) (fun p e s m below meth c H ls E hH hl => ?_)
   refine q_wc (c1 := zS Z - zS Z) (s1 := zC Z - zC Z) (Nat.sub_self _).symm (Nat.sub_self _).symm ?_
   exact bX6_init_0 E ⟨Nat.le_refl _, Nat.le_refl _⟩ Z q_le.rf ⟨Nat.le_refl _, Nat.le_refl _⟩ h M H [] ls hf hH hl)
def fX7_init_b213 (h : Nat) (s0 : Nat) (s1 : Nat) (Z : q_Z) (M : q_C) : Option (q_Z × q_C) :=
  q_gd (zK Z s1 == 17) <|
  q_nm (sR M s1 29 (some s0)) fun M_67 =>
  q_gd (zK Z h == 17) <|
  Option.bind (gR M_67 h 4) fun a_69 =>
  q_gd (q_ok Z a_69 1 (0 : Int32)) <|
  q_nm (sI M_67 a_69 (0 : Int32).toNatClampNeg (10000000 : Int32)) fun M_72 =>
  some (Z, M_72)
theorem moX7_init_b213 (h : Nat) (s0 : Nat) (s1 : Nat) (Z : q_Z) (M : q_C) (Z' : q_Z) (M' : q_C) (hf : fX7_init_b213 h s0 s1 Z M = some (Z', M')) : q_le Z Z' := by
  unfold fX7_init_b213 at hf
  obtain ⟨-, hf⟩ := q_gdE hf
  replace hf := q_nmE (x := _) rfl hf
  obtain ⟨-, hf⟩ := q_gdE hf
  obtain ⟨a_69, -, hf⟩ := q_biE hf
  obtain ⟨-, hf⟩ := q_gdE hf
  replace hf := q_nmE (x := _) rfl hf
  cases hf
  exact q_le.rf
set_option maxHeartbeats 4000000 in
set_option maxRecDepth 100000 in
theorem bX7_init_213 (E : q_E p s m meth c cX7_init 1 RX7 none "<init>" D cA) (hR : 1 ≤ R.frames ∧ 20 ≤ R.locals) (Zi : q_Z) {Z : q_Z} (hi : q_le Zi Z) {Z' : q_Z} {M' : q_C} (hbd : zS Z' - zS Zi ≤ R.cells ∧ zC Z' - zC Zi ≤ R.slots)  (h : Nat) (s0 : Nat) (s1 : Nat) (M : q_C) (H : Heap) (locs : List Loc) (ls : Array Slot) (hf : fX7_init_b213 h s0 s1 Z M = some (Z', M')) (hH : q_Hh D cA z0 s Z M H locs) (hl : lv_has ls 1 [(0, .ref h)])  : W p l e R s m args below meth c H locs (zS Z - zS Zi) (zC Z - zC Zi) (MQ below (q_Q D cA z0 none Z' M') args s (zS Z' - zS Zi) (zC Z' - zC Zi) (fun q => z0 ≤ q)) (F0 m 213 ls [.ref s0, .ref s1]) := by
  have hx := E.1
  have hb := E.2.1
  have hown := E.2.2.2.1
  have hT := E.2.2.2.2.2.2.2.1
  have hcc := q_bd hi (moX7_init_b213 _ _ _ _ _ _ _ hf) hbd
  unfold fX7_init_b213 at hf
  obtain ⟨hk_66, hf⟩ := q_gdE hf
  have hk_66 := q_keq hk_66
  refine q_putRF E hH (ci := 7) rfl 29 (by decide) kF_X7_101 rfl rfl rfl (fun _ _ _ => rfl) (x := (some s0)) hk_66 (q_rff _ "" _ (Or.inr ⟨_, rfl⟩)).1 (q_rff _ "" _ (Or.inr ⟨_, rfl⟩)).2 dX7_init_213 hf (fun M_67 H locs hH hf => ?_)
  refine lv_aload_n hx hb dX7_init_216 rfl (lv_at hl 0 rfl) ?_
  obtain ⟨hk_68, hf⟩ := q_gdE hf
  have hk_68 := q_keq hk_68
  refine q_getR E hH (ci := 7) rfl 4 (by decide) kF_X7_22 (fun _ _ _ => rfl) hk_68 dX7_init_217 ?_
  obtain ⟨a_69, he_70, hf⟩ := q_biE hf
  rw [he_70]
  refine lv_iconst (v := 0) hx hb dX7_init_220 (by decide) ?_
  refine lv_ldc hx hb hown (hT.1 _ _ kK_X7_104) dX7_init_221 ?_
  obtain ⟨hz_71, hf⟩ := q_gdE hf
  refine q_iastore E hH hz_71 dX7_init_223 hf (fun M_72 H locs hH hf => ?_)
  cases hf
  exact q_vret E hH dX7_init_224
def fX7_init_b204 (h : Nat) (s0 : Nat) (s1 : Nat) (Z : q_Z) (M : q_C) : Option (q_Z × q_C) :=
  q_gd (zK Z s1 == 17) <|
  q_nm (sR M s1 28 (some s0)) fun M_64 =>
  q_gd (zK Z (zS Z) == 0) <|
  fX7_init_b213 h (zS Z) h (zN Z 2 601) (cN M_64 (zS Z))
theorem moX7_init_b204 (h : Nat) (s0 : Nat) (s1 : Nat) (Z : q_Z) (M : q_C) (Z' : q_Z) (M' : q_C) (hf : fX7_init_b204 h s0 s1 Z M = some (Z', M')) : q_le Z Z' := by
  unfold fX7_init_b204 at hf
  obtain ⟨-, hf⟩ := q_gdE hf
  replace hf := q_nmE (x := _) rfl hf
  obtain ⟨-, hf⟩ := q_gdE hf
  exact (q_le.nw (kd := 2) (n := 601)).tr (moX7_init_b213 _ _ _ _ _ _ _ hf)
set_option maxHeartbeats 4000000 in
set_option maxRecDepth 100000 in
theorem bX7_init_204 (E : q_E p s m meth c cX7_init 1 RX7 none "<init>" D cA) (hR : 1 ≤ R.frames ∧ 20 ≤ R.locals) (Zi : q_Z) {Z : q_Z} (hi : q_le Zi Z) {Z' : q_Z} {M' : q_C} (hbd : zS Z' - zS Zi ≤ R.cells ∧ zC Z' - zC Zi ≤ R.slots)  (h : Nat) (s0 : Nat) (s1 : Nat) (M : q_C) (H : Heap) (locs : List Loc) (ls : Array Slot) (hf : fX7_init_b204 h s0 s1 Z M = some (Z', M')) (hH : q_Hh D cA z0 s Z M H locs) (hl : lv_has ls 1 [(0, .ref h)])  : W p l e R s m args below meth c H locs (zS Z - zS Zi) (zC Z - zC Zi) (MQ below (q_Q D cA z0 none Z' M') args s (zS Z' - zS Zi) (zC Z' - zC Zi) (fun q => z0 ≤ q)) (F0 m 204 ls [.ref s0, .ref s1]) := by
  have hx := E.1
  have hb := E.2.1
  have hown := E.2.2.2.1
  have hT := E.2.2.2.2.2.2.2.1
  have hcc := q_bd hi (moX7_init_b204 _ _ _ _ _ _ _ hf) hbd
  unfold fX7_init_b204 at hf
  obtain ⟨hk_63, hf⟩ := q_gdE hf
  have hk_63 := q_keq hk_63
  refine q_putRF E hH (ci := 7) rfl 28 (by decide) kF_X7_98 rfl rfl rfl (fun _ _ _ => rfl) (x := (some s0)) hk_63 (q_rff _ "" _ (Or.inr ⟨_, rfl⟩)).1 (q_rff _ "" _ (Or.inr ⟨_, rfl⟩)).2 dX7_init_204 hf (fun M_64 H locs hH hf => ?_)
  refine lv_aload_n hx hb dX7_init_207 rfl (lv_at hl 0 rfl) ?_
  refine lv_sipush (v := 601) hx hb dX7_init_208 (by decide) ?_
  obtain ⟨hz_65, hf⟩ := q_gdE hf
  have hz_65 := q_keq hz_65
  have hq : q_le (zN Z 2 601) Z' := moX7_init_b213 _ _ _ _ _ _ _ hf
  refine q_newarr2 (N := 601) E hH kA_long (by decide) (by decide) (by decide) hz_65 (q_nwb (kd := 2) (n := 601) hi hq hbd) dX7_init_211 (fun H hH => ?_)
  refine q_wc (c1 := zS (zN Z 2 601) - zS Zi) (s1 := zC (zN Z 2 601) - zC Zi) (q_bn1 hi) (q_bn2 hi) ?_
  exact bX7_init_213 E hR Zi (hi.tr q_le.nw) hbd h (zS Z) h (cN M_64 (zS Z)) _ _ _  hf hH (lv_sub hl [0] rfl)
def fX7_init_b195 (h : Nat) (s0 : Nat) (s1 : Nat) (Z : q_Z) (M : q_C) : Option (q_Z × q_C) :=
  q_gd (zK Z s1 == 17) <|
  q_nm (sR M s1 27 (some s0)) fun M_61 =>
  q_gd (zK Z (zS Z) == 0) <|
  fX7_init_b204 h (zS Z) h (zN Z 2 601) (cN M_61 (zS Z))
theorem moX7_init_b195 (h : Nat) (s0 : Nat) (s1 : Nat) (Z : q_Z) (M : q_C) (Z' : q_Z) (M' : q_C) (hf : fX7_init_b195 h s0 s1 Z M = some (Z', M')) : q_le Z Z' := by
  unfold fX7_init_b195 at hf
  obtain ⟨-, hf⟩ := q_gdE hf
  replace hf := q_nmE (x := _) rfl hf
  obtain ⟨-, hf⟩ := q_gdE hf
  exact (q_le.nw (kd := 2) (n := 601)).tr (moX7_init_b204 _ _ _ _ _ _ _ hf)
set_option maxHeartbeats 4000000 in
set_option maxRecDepth 100000 in
theorem bX7_init_195 (E : q_E p s m meth c cX7_init 1 RX7 none "<init>" D cA) (hR : 1 ≤ R.frames ∧ 20 ≤ R.locals) (Zi : q_Z) {Z : q_Z} (hi : q_le Zi Z) {Z' : q_Z} {M' : q_C} (hbd : zS Z' - zS Zi ≤ R.cells ∧ zC Z' - zC Zi ≤ R.slots)  (h : Nat) (s0 : Nat) (s1 : Nat) (M : q_C) (H : Heap) (locs : List Loc) (ls : Array Slot) (hf : fX7_init_b195 h s0 s1 Z M = some (Z', M')) (hH : q_Hh D cA z0 s Z M H locs) (hl : lv_has ls 1 [(0, .ref h)])  : W p l e R s m args below meth c H locs (zS Z - zS Zi) (zC Z - zC Zi) (MQ below (q_Q D cA z0 none Z' M') args s (zS Z' - zS Zi) (zC Z' - zC Zi) (fun q => z0 ≤ q)) (F0 m 195 ls [.ref s0, .ref s1]) := by
  have hx := E.1
  have hb := E.2.1
  have hown := E.2.2.2.1
  have hT := E.2.2.2.2.2.2.2.1
  have hcc := q_bd hi (moX7_init_b195 _ _ _ _ _ _ _ hf) hbd
  unfold fX7_init_b195 at hf
  obtain ⟨hk_60, hf⟩ := q_gdE hf
  have hk_60 := q_keq hk_60
  refine q_putRF E hH (ci := 7) rfl 27 (by decide) kF_X7_95 rfl rfl rfl (fun _ _ _ => rfl) (x := (some s0)) hk_60 (q_rff _ "" _ (Or.inr ⟨_, rfl⟩)).1 (q_rff _ "" _ (Or.inr ⟨_, rfl⟩)).2 dX7_init_195 hf (fun M_61 H locs hH hf => ?_)
  refine lv_aload_n hx hb dX7_init_198 rfl (lv_at hl 0 rfl) ?_
  refine lv_sipush (v := 601) hx hb dX7_init_199 (by decide) ?_
  obtain ⟨hz_62, hf⟩ := q_gdE hf
  have hz_62 := q_keq hz_62
  have hq : q_le (zN Z 2 601) Z' := moX7_init_b204 _ _ _ _ _ _ _ hf
  refine q_newarr2 (N := 601) E hH kA_long (by decide) (by decide) (by decide) hz_62 (q_nwb (kd := 2) (n := 601) hi hq hbd) dX7_init_202 (fun H hH => ?_)
  refine q_wc (c1 := zS (zN Z 2 601) - zS Zi) (s1 := zC (zN Z 2 601) - zC Zi) (q_bn1 hi) (q_bn2 hi) ?_
  exact bX7_init_204 E hR Zi (hi.tr q_le.nw) hbd h (zS Z) h (cN M_61 (zS Z)) _ _ _  hf hH (lv_sub hl [0] rfl)
def fX7_init_b186 (h : Nat) (s0 : Nat) (s1 : Nat) (Z : q_Z) (M : q_C) : Option (q_Z × q_C) :=
  q_gd (zK Z s1 == 17) <|
  q_nm (sR M s1 26 (some s0)) fun M_58 =>
  q_gd (zK Z (zS Z) == 0) <|
  fX7_init_b195 h (zS Z) h (zN Z 2 601) (cN M_58 (zS Z))
theorem moX7_init_b186 (h : Nat) (s0 : Nat) (s1 : Nat) (Z : q_Z) (M : q_C) (Z' : q_Z) (M' : q_C) (hf : fX7_init_b186 h s0 s1 Z M = some (Z', M')) : q_le Z Z' := by
  unfold fX7_init_b186 at hf
  obtain ⟨-, hf⟩ := q_gdE hf
  replace hf := q_nmE (x := _) rfl hf
  obtain ⟨-, hf⟩ := q_gdE hf
  exact (q_le.nw (kd := 2) (n := 601)).tr (moX7_init_b195 _ _ _ _ _ _ _ hf)
set_option maxHeartbeats 4000000 in
set_option maxRecDepth 100000 in
theorem bX7_init_186 (E : q_E p s m meth c cX7_init 1 RX7 none "<init>" D cA) (hR : 1 ≤ R.frames ∧ 20 ≤ R.locals) (Zi : q_Z) {Z : q_Z} (hi : q_le Zi Z) {Z' : q_Z} {M' : q_C} (hbd : zS Z' - zS Zi ≤ R.cells ∧ zC Z' - zC Zi ≤ R.slots)  (h : Nat) (s0 : Nat) (s1 : Nat) (M : q_C) (H : Heap) (locs : List Loc) (ls : Array Slot) (hf : fX7_init_b186 h s0 s1 Z M = some (Z', M')) (hH : q_Hh D cA z0 s Z M H locs) (hl : lv_has ls 1 [(0, .ref h)])  : W p l e R s m args below meth c H locs (zS Z - zS Zi) (zC Z - zC Zi) (MQ below (q_Q D cA z0 none Z' M') args s (zS Z' - zS Zi) (zC Z' - zC Zi) (fun q => z0 ≤ q)) (F0 m 186 ls [.ref s0, .ref s1]) := by
  have hx := E.1
  have hb := E.2.1
  have hown := E.2.2.2.1
  have hT := E.2.2.2.2.2.2.2.1
  have hcc := q_bd hi (moX7_init_b186 _ _ _ _ _ _ _ hf) hbd
  unfold fX7_init_b186 at hf
  obtain ⟨hk_57, hf⟩ := q_gdE hf
  have hk_57 := q_keq hk_57
  refine q_putRF E hH (ci := 7) rfl 26 (by decide) kF_X7_92 rfl rfl rfl (fun _ _ _ => rfl) (x := (some s0)) hk_57 (q_rff _ "" _ (Or.inr ⟨_, rfl⟩)).1 (q_rff _ "" _ (Or.inr ⟨_, rfl⟩)).2 dX7_init_186 hf (fun M_58 H locs hH hf => ?_)
  refine lv_aload_n hx hb dX7_init_189 rfl (lv_at hl 0 rfl) ?_
  refine lv_sipush (v := 601) hx hb dX7_init_190 (by decide) ?_
  obtain ⟨hz_59, hf⟩ := q_gdE hf
  have hz_59 := q_keq hz_59
  have hq : q_le (zN Z 2 601) Z' := moX7_init_b195 _ _ _ _ _ _ _ hf
  refine q_newarr2 (N := 601) E hH kA_long (by decide) (by decide) (by decide) hz_59 (q_nwb (kd := 2) (n := 601) hi hq hbd) dX7_init_193 (fun H hH => ?_)
  refine q_wc (c1 := zS (zN Z 2 601) - zS Zi) (s1 := zC (zN Z 2 601) - zC Zi) (q_bn1 hi) (q_bn2 hi) ?_
  exact bX7_init_195 E hR Zi (hi.tr q_le.nw) hbd h (zS Z) h (cN M_58 (zS Z)) _ _ _  hf hH (lv_sub hl [0] rfl)
def fX7_init_b150 (h : Nat) (s0 : Nat) (s1 : Nat) (Z : q_Z) (M : q_C) : Option (q_Z × q_C) :=
  q_gd (zK Z s1 == 17) <|
  q_nm (sR M s1 20 (some s0)) fun M_49 =>
  q_gd (zK Z h == 17) <|
  q_nm (sI M_49 h 21 (-1000 : Int32)) fun M_51 =>
  q_nm (sJ M_51 h 22 (0 : Int64)) fun M_52 =>
  q_nm (sJ M_52 h 23 (0 : Int64)) fun M_53 =>
  q_nm (sJ M_53 h 24 (0 : Int64)) fun M_54 =>
  q_nm (sJ M_54 h 25 (0 : Int64)) fun M_55 =>
  q_gd (zK Z (zS Z) == 0) <|
  fX7_init_b186 h (zS Z) h (zN Z 2 601) (cN M_55 (zS Z))
theorem moX7_init_b150 (h : Nat) (s0 : Nat) (s1 : Nat) (Z : q_Z) (M : q_C) (Z' : q_Z) (M' : q_C) (hf : fX7_init_b150 h s0 s1 Z M = some (Z', M')) : q_le Z Z' := by
  unfold fX7_init_b150 at hf
  obtain ⟨-, hf⟩ := q_gdE hf
  replace hf := q_nmE (x := _) rfl hf
  obtain ⟨-, hf⟩ := q_gdE hf
  replace hf := q_nmE (x := _) rfl hf
  replace hf := q_nmE (x := _) rfl hf
  replace hf := q_nmE (x := _) rfl hf
  replace hf := q_nmE (x := _) rfl hf
  replace hf := q_nmE (x := _) rfl hf
  obtain ⟨-, hf⟩ := q_gdE hf
  exact (q_le.nw (kd := 2) (n := 601)).tr (moX7_init_b186 _ _ _ _ _ _ _ hf)
set_option maxHeartbeats 4000000 in
set_option maxRecDepth 100000 in
theorem bX7_init_150 (E : q_E p s m meth c cX7_init 1 RX7 none "<init>" D cA) (hR : 1 ≤ R.frames ∧ 20 ≤ R.locals) (Zi : q_Z) {Z : q_Z} (hi : q_le Zi Z) {Z' : q_Z} {M' : q_C} (hbd : zS Z' - zS Zi ≤ R.cells ∧ zC Z' - zC Zi ≤ R.slots)  (h : Nat) (s0 : Nat) (s1 : Nat) (M : q_C) (H : Heap) (locs : List Loc) (ls : Array Slot) (hf : fX7_init_b150 h s0 s1 Z M = some (Z', M')) (hH : q_Hh D cA z0 s Z M H locs) (hl : lv_has ls 1 [(0, .ref h)])  : W p l e R s m args below meth c H locs (zS Z - zS Zi) (zC Z - zC Zi) (MQ below (q_Q D cA z0 none Z' M') args s (zS Z' - zS Zi) (zC Z' - zC Zi) (fun q => z0 ≤ q)) (F0 m 150 ls [.ref s0, .ref s1]) := by
  have hx := E.1
  have hb := E.2.1
  have hown := E.2.2.2.1
  have hT := E.2.2.2.2.2.2.2.1
  have hcc := q_bd hi (moX7_init_b150 _ _ _ _ _ _ _ hf) hbd
  unfold fX7_init_b150 at hf
  obtain ⟨hk_48, hf⟩ := q_gdE hf
  have hk_48 := q_keq hk_48
  refine q_putRF E hH (ci := 7) rfl 20 (by decide) kF_X7_73 rfl rfl rfl (fun _ _ _ => rfl) (x := (some s0)) hk_48 (q_rff _ "" _ (Or.inr ⟨_, rfl⟩)).1 (q_rff _ "" _ (Or.inr ⟨_, rfl⟩)).2 dX7_init_150 hf (fun M_49 H locs hH hf => ?_)
  refine lv_aload_n hx hb dX7_init_153 rfl (lv_at hl 0 rfl) ?_
  refine lv_sipush (v := -1000) hx hb dX7_init_154 (by decide) ?_
  obtain ⟨hk_50, hf⟩ := q_gdE hf
  have hk_50 := q_keq hk_50
  refine q_putI E hH (ci := 7) rfl 21 (by decide) kF_X7_76 rfl (fun _ _ _ => rfl) (x := (-1000 : Int32)) hk_50 rfl rfl dX7_init_157 hf (fun M_51 H locs hH hf => ?_)
  refine lv_aload_n hx hb dX7_init_160 rfl (lv_at hl 0 rfl) ?_
  refine lv_lconst (v := 0) hx hb dX7_init_161 (by decide) ?_
  refine q_putJ E hH (ci := 7) rfl 22 (by decide) kF_X7_79 rfl (fun _ _ _ => rfl) (x := (0 : Int64)) hk_50 rfl rfl dX7_init_162 hf (fun M_52 H locs hH hf => ?_)
  refine lv_aload_n hx hb dX7_init_165 rfl (lv_at hl 0 rfl) ?_
  refine lv_lconst (v := 0) hx hb dX7_init_166 (by decide) ?_
  refine q_putJ E hH (ci := 7) rfl 23 (by decide) kF_X7_83 rfl (fun _ _ _ => rfl) (x := (0 : Int64)) hk_50 rfl rfl dX7_init_167 hf (fun M_53 H locs hH hf => ?_)
  refine lv_aload_n hx hb dX7_init_170 rfl (lv_at hl 0 rfl) ?_
  refine lv_lconst (v := 0) hx hb dX7_init_171 (by decide) ?_
  refine q_putJ E hH (ci := 7) rfl 24 (by decide) kF_X7_86 rfl (fun _ _ _ => rfl) (x := (0 : Int64)) hk_50 rfl rfl dX7_init_172 hf (fun M_54 H locs hH hf => ?_)
  refine lv_aload_n hx hb dX7_init_175 rfl (lv_at hl 0 rfl) ?_
  refine lv_lconst (v := 0) hx hb dX7_init_176 (by decide) ?_
  refine q_putJ E hH (ci := 7) rfl 25 (by decide) kF_X7_89 rfl (fun _ _ _ => rfl) (x := (0 : Int64)) hk_50 rfl rfl dX7_init_177 hf (fun M_55 H locs hH hf => ?_)
  refine lv_aload_n hx hb dX7_init_180 rfl (lv_at hl 0 rfl) ?_
  refine lv_sipush (v := 601) hx hb dX7_init_181 (by decide) ?_
  obtain ⟨hz_56, hf⟩ := q_gdE hf
  have hz_56 := q_keq hz_56
  have hq : q_le (zN Z 2 601) Z' := moX7_init_b186 _ _ _ _ _ _ _ hf
  refine q_newarr2 (N := 601) E hH kA_long (by decide) (by decide) (by decide) hz_56 (q_nwb (kd := 2) (n := 601) hi hq hbd) dX7_init_184 (fun H hH => ?_)
  refine q_wc (c1 := zS (zN Z 2 601) - zS Zi) (s1 := zC (zN Z 2 601) - zC Zi) (q_bn1 hi) (q_bn2 hi) ?_
  exact bX7_init_186 E hR Zi (hi.tr q_le.nw) hbd h (zS Z) h (cN M_55 (zS Z)) _ _ _  hf hH (lv_sub hl [0] rfl)
def fX7_init_b142 (h : Nat) (s0 : Nat) (s1 : Nat) (Z : q_Z) (M : q_C) : Option (q_Z × q_C) :=
  q_gd (zK Z s1 == 17) <|
  q_nm (sR M s1 19 (some s0)) fun M_46 =>
  q_gd (zK Z (zS Z) == 0) <|
  fX7_init_b150 h (zS Z) h (zN Z 2 60100) (cN M_46 (zS Z))
theorem moX7_init_b142 (h : Nat) (s0 : Nat) (s1 : Nat) (Z : q_Z) (M : q_C) (Z' : q_Z) (M' : q_C) (hf : fX7_init_b142 h s0 s1 Z M = some (Z', M')) : q_le Z Z' := by
  unfold fX7_init_b142 at hf
  obtain ⟨-, hf⟩ := q_gdE hf
  replace hf := q_nmE (x := _) rfl hf
  obtain ⟨-, hf⟩ := q_gdE hf
  exact (q_le.nw (kd := 2) (n := 60100)).tr (moX7_init_b150 _ _ _ _ _ _ _ hf)
set_option maxHeartbeats 4000000 in
set_option maxRecDepth 100000 in
theorem bX7_init_142 (E : q_E p s m meth c cX7_init 1 RX7 none "<init>" D cA) (hR : 1 ≤ R.frames ∧ 20 ≤ R.locals) (Zi : q_Z) {Z : q_Z} (hi : q_le Zi Z) {Z' : q_Z} {M' : q_C} (hbd : zS Z' - zS Zi ≤ R.cells ∧ zC Z' - zC Zi ≤ R.slots)  (h : Nat) (s0 : Nat) (s1 : Nat) (M : q_C) (H : Heap) (locs : List Loc) (ls : Array Slot) (hf : fX7_init_b142 h s0 s1 Z M = some (Z', M')) (hH : q_Hh D cA z0 s Z M H locs) (hl : lv_has ls 1 [(0, .ref h)])  : W p l e R s m args below meth c H locs (zS Z - zS Zi) (zC Z - zC Zi) (MQ below (q_Q D cA z0 none Z' M') args s (zS Z' - zS Zi) (zC Z' - zC Zi) (fun q => z0 ≤ q)) (F0 m 142 ls [.ref s0, .ref s1]) := by
  have hx := E.1
  have hb := E.2.1
  have hown := E.2.2.2.1
  have hT := E.2.2.2.2.2.2.2.1
  have hcc := q_bd hi (moX7_init_b142 _ _ _ _ _ _ _ hf) hbd
  unfold fX7_init_b142 at hf
  obtain ⟨hk_45, hf⟩ := q_gdE hf
  have hk_45 := q_keq hk_45
  refine q_putRF E hH (ci := 7) rfl 19 (by decide) kF_X7_70 rfl rfl rfl (fun _ _ _ => rfl) (x := (some s0)) hk_45 (q_rff _ "" _ (Or.inr ⟨_, rfl⟩)).1 (q_rff _ "" _ (Or.inr ⟨_, rfl⟩)).2 dX7_init_142 hf (fun M_46 H locs hH hf => ?_)
  refine lv_aload_n hx hb dX7_init_145 rfl (lv_at hl 0 rfl) ?_
  refine lv_ldc hx hb hown (hT.1 _ _ kK_X7_62) dX7_init_146 ?_
  obtain ⟨hz_47, hf⟩ := q_gdE hf
  have hz_47 := q_keq hz_47
  have hq : q_le (zN Z 2 60100) Z' := moX7_init_b150 _ _ _ _ _ _ _ hf
  refine q_newarr2 (N := 60100) E hH kA_long (by decide) (by decide) (by decide) hz_47 (q_nwb (kd := 2) (n := 60100) hi hq hbd) dX7_init_148 (fun H hH => ?_)
  refine q_wc (c1 := zS (zN Z 2 60100) - zS Zi) (s1 := zC (zN Z 2 60100) - zC Zi) (q_bn1 hi) (q_bn2 hi) ?_
  exact bX7_init_150 E hR Zi (hi.tr q_le.nw) hbd h (zS Z) h (cN M_46 (zS Z)) _ _ _  hf hH (lv_sub hl [0] rfl)
def fX7_init_b134 (h : Nat) (s0 : Nat) (s1 : Nat) (Z : q_Z) (M : q_C) : Option (q_Z × q_C) :=
  q_gd (zK Z s1 == 17) <|
  q_nm (sR M s1 18 (some s0)) fun M_43 =>
  q_gd (zK Z (zS Z) == 0) <|
  fX7_init_b142 h (zS Z) h (zN Z 2 60100) (cN M_43 (zS Z))
theorem moX7_init_b134 (h : Nat) (s0 : Nat) (s1 : Nat) (Z : q_Z) (M : q_C) (Z' : q_Z) (M' : q_C) (hf : fX7_init_b134 h s0 s1 Z M = some (Z', M')) : q_le Z Z' := by
  unfold fX7_init_b134 at hf
  obtain ⟨-, hf⟩ := q_gdE hf
  replace hf := q_nmE (x := _) rfl hf
  obtain ⟨-, hf⟩ := q_gdE hf
  exact (q_le.nw (kd := 2) (n := 60100)).tr (moX7_init_b142 _ _ _ _ _ _ _ hf)
set_option maxHeartbeats 4000000 in
set_option maxRecDepth 100000 in
theorem bX7_init_134 (E : q_E p s m meth c cX7_init 1 RX7 none "<init>" D cA) (hR : 1 ≤ R.frames ∧ 20 ≤ R.locals) (Zi : q_Z) {Z : q_Z} (hi : q_le Zi Z) {Z' : q_Z} {M' : q_C} (hbd : zS Z' - zS Zi ≤ R.cells ∧ zC Z' - zC Zi ≤ R.slots)  (h : Nat) (s0 : Nat) (s1 : Nat) (M : q_C) (H : Heap) (locs : List Loc) (ls : Array Slot) (hf : fX7_init_b134 h s0 s1 Z M = some (Z', M')) (hH : q_Hh D cA z0 s Z M H locs) (hl : lv_has ls 1 [(0, .ref h)])  : W p l e R s m args below meth c H locs (zS Z - zS Zi) (zC Z - zC Zi) (MQ below (q_Q D cA z0 none Z' M') args s (zS Z' - zS Zi) (zC Z' - zC Zi) (fun q => z0 ≤ q)) (F0 m 134 ls [.ref s0, .ref s1]) := by
  have hx := E.1
  have hb := E.2.1
  have hown := E.2.2.2.1
  have hT := E.2.2.2.2.2.2.2.1
  have hcc := q_bd hi (moX7_init_b134 _ _ _ _ _ _ _ hf) hbd
  unfold fX7_init_b134 at hf
  obtain ⟨hk_42, hf⟩ := q_gdE hf
  have hk_42 := q_keq hk_42
  refine q_putRF E hH (ci := 7) rfl 18 (by decide) kF_X7_67 rfl rfl rfl (fun _ _ _ => rfl) (x := (some s0)) hk_42 (q_rff _ "" _ (Or.inr ⟨_, rfl⟩)).1 (q_rff _ "" _ (Or.inr ⟨_, rfl⟩)).2 dX7_init_134 hf (fun M_43 H locs hH hf => ?_)
  refine lv_aload_n hx hb dX7_init_137 rfl (lv_at hl 0 rfl) ?_
  refine lv_ldc hx hb hown (hT.1 _ _ kK_X7_62) dX7_init_138 ?_
  obtain ⟨hz_44, hf⟩ := q_gdE hf
  have hz_44 := q_keq hz_44
  have hq : q_le (zN Z 2 60100) Z' := moX7_init_b142 _ _ _ _ _ _ _ hf
  refine q_newarr2 (N := 60100) E hH kA_long (by decide) (by decide) (by decide) hz_44 (q_nwb (kd := 2) (n := 60100) hi hq hbd) dX7_init_140 (fun H hH => ?_)
  refine q_wc (c1 := zS (zN Z 2 60100) - zS Zi) (s1 := zC (zN Z 2 60100) - zC Zi) (q_bn1 hi) (q_bn2 hi) ?_
  exact bX7_init_142 E hR Zi (hi.tr q_le.nw) hbd h (zS Z) h (cN M_43 (zS Z)) _ _ _  hf hH (lv_sub hl [0] rfl)
def fX7_init_b126 (h : Nat) (s0 : Nat) (s1 : Nat) (Z : q_Z) (M : q_C) : Option (q_Z × q_C) :=
  q_gd (zK Z s1 == 17) <|
  q_nm (sR M s1 17 (some s0)) fun M_40 =>
  q_gd (zK Z (zS Z) == 0) <|
  fX7_init_b134 h (zS Z) h (zN Z 2 60100) (cN M_40 (zS Z))
theorem moX7_init_b126 (h : Nat) (s0 : Nat) (s1 : Nat) (Z : q_Z) (M : q_C) (Z' : q_Z) (M' : q_C) (hf : fX7_init_b126 h s0 s1 Z M = some (Z', M')) : q_le Z Z' := by
  unfold fX7_init_b126 at hf
  obtain ⟨-, hf⟩ := q_gdE hf
  replace hf := q_nmE (x := _) rfl hf
  obtain ⟨-, hf⟩ := q_gdE hf
  exact (q_le.nw (kd := 2) (n := 60100)).tr (moX7_init_b134 _ _ _ _ _ _ _ hf)
set_option maxHeartbeats 4000000 in
set_option maxRecDepth 100000 in
theorem bX7_init_126 (E : q_E p s m meth c cX7_init 1 RX7 none "<init>" D cA) (hR : 1 ≤ R.frames ∧ 20 ≤ R.locals) (Zi : q_Z) {Z : q_Z} (hi : q_le Zi Z) {Z' : q_Z} {M' : q_C} (hbd : zS Z' - zS Zi ≤ R.cells ∧ zC Z' - zC Zi ≤ R.slots)  (h : Nat) (s0 : Nat) (s1 : Nat) (M : q_C) (H : Heap) (locs : List Loc) (ls : Array Slot) (hf : fX7_init_b126 h s0 s1 Z M = some (Z', M')) (hH : q_Hh D cA z0 s Z M H locs) (hl : lv_has ls 1 [(0, .ref h)])  : W p l e R s m args below meth c H locs (zS Z - zS Zi) (zC Z - zC Zi) (MQ below (q_Q D cA z0 none Z' M') args s (zS Z' - zS Zi) (zC Z' - zC Zi) (fun q => z0 ≤ q)) (F0 m 126 ls [.ref s0, .ref s1]) := by
  have hx := E.1
  have hb := E.2.1
  have hown := E.2.2.2.1
  have hT := E.2.2.2.2.2.2.2.1
  have hcc := q_bd hi (moX7_init_b126 _ _ _ _ _ _ _ hf) hbd
  unfold fX7_init_b126 at hf
  obtain ⟨hk_39, hf⟩ := q_gdE hf
  have hk_39 := q_keq hk_39
  refine q_putRF E hH (ci := 7) rfl 17 (by decide) kF_X7_63 rfl rfl rfl (fun _ _ _ => rfl) (x := (some s0)) hk_39 (q_rff _ "" _ (Or.inr ⟨_, rfl⟩)).1 (q_rff _ "" _ (Or.inr ⟨_, rfl⟩)).2 dX7_init_126 hf (fun M_40 H locs hH hf => ?_)
  refine lv_aload_n hx hb dX7_init_129 rfl (lv_at hl 0 rfl) ?_
  refine lv_ldc hx hb hown (hT.1 _ _ kK_X7_62) dX7_init_130 ?_
  obtain ⟨hz_41, hf⟩ := q_gdE hf
  have hz_41 := q_keq hz_41
  have hq : q_le (zN Z 2 60100) Z' := moX7_init_b134 _ _ _ _ _ _ _ hf
  refine q_newarr2 (N := 60100) E hH kA_long (by decide) (by decide) (by decide) hz_41 (q_nwb (kd := 2) (n := 60100) hi hq hbd) dX7_init_132 (fun H hH => ?_)
  refine q_wc (c1 := zS (zN Z 2 60100) - zS Zi) (s1 := zC (zN Z 2 60100) - zC Zi) (q_bn1 hi) (q_bn2 hi) ?_
  exact bX7_init_134 E hR Zi (hi.tr q_le.nw) hbd h (zS Z) h (cN M_40 (zS Z)) _ _ _  hf hH (lv_sub hl [0] rfl)
def fX7_init_b118 (h : Nat) (s0 : Nat) (s1 : Nat) (Z : q_Z) (M : q_C) : Option (q_Z × q_C) :=
  q_gd (zK Z s1 == 17) <|
  q_nm (sR M s1 16 (some s0)) fun M_37 =>
  q_gd (zK Z (zS Z) == 0) <|
  fX7_init_b126 h (zS Z) h (zN Z 2 60100) (cN M_37 (zS Z))
theorem moX7_init_b118 (h : Nat) (s0 : Nat) (s1 : Nat) (Z : q_Z) (M : q_C) (Z' : q_Z) (M' : q_C) (hf : fX7_init_b118 h s0 s1 Z M = some (Z', M')) : q_le Z Z' := by
  unfold fX7_init_b118 at hf
  obtain ⟨-, hf⟩ := q_gdE hf
  replace hf := q_nmE (x := _) rfl hf
  obtain ⟨-, hf⟩ := q_gdE hf
  exact (q_le.nw (kd := 2) (n := 60100)).tr (moX7_init_b126 _ _ _ _ _ _ _ hf)
set_option maxHeartbeats 4000000 in
set_option maxRecDepth 100000 in
theorem bX7_init_118 (E : q_E p s m meth c cX7_init 1 RX7 none "<init>" D cA) (hR : 1 ≤ R.frames ∧ 20 ≤ R.locals) (Zi : q_Z) {Z : q_Z} (hi : q_le Zi Z) {Z' : q_Z} {M' : q_C} (hbd : zS Z' - zS Zi ≤ R.cells ∧ zC Z' - zC Zi ≤ R.slots)  (h : Nat) (s0 : Nat) (s1 : Nat) (M : q_C) (H : Heap) (locs : List Loc) (ls : Array Slot) (hf : fX7_init_b118 h s0 s1 Z M = some (Z', M')) (hH : q_Hh D cA z0 s Z M H locs) (hl : lv_has ls 1 [(0, .ref h)])  : W p l e R s m args below meth c H locs (zS Z - zS Zi) (zC Z - zC Zi) (MQ below (q_Q D cA z0 none Z' M') args s (zS Z' - zS Zi) (zC Z' - zC Zi) (fun q => z0 ≤ q)) (F0 m 118 ls [.ref s0, .ref s1]) := by
  have hx := E.1
  have hb := E.2.1
  have hown := E.2.2.2.1
  have hT := E.2.2.2.2.2.2.2.1
  have hcc := q_bd hi (moX7_init_b118 _ _ _ _ _ _ _ hf) hbd
  unfold fX7_init_b118 at hf
  obtain ⟨hk_36, hf⟩ := q_gdE hf
  have hk_36 := q_keq hk_36
  refine q_putRF E hH (ci := 7) rfl 16 (by decide) kF_X7_59 rfl rfl rfl (fun _ _ _ => rfl) (x := (some s0)) hk_36 (q_rff _ "" _ (Or.inr ⟨_, rfl⟩)).1 (q_rff _ "" _ (Or.inr ⟨_, rfl⟩)).2 dX7_init_118 hf (fun M_37 H locs hH hf => ?_)
  refine lv_aload_n hx hb dX7_init_121 rfl (lv_at hl 0 rfl) ?_
  refine lv_ldc hx hb hown (hT.1 _ _ kK_X7_62) dX7_init_122 ?_
  obtain ⟨hz_38, hf⟩ := q_gdE hf
  have hz_38 := q_keq hz_38
  have hq : q_le (zN Z 2 60100) Z' := moX7_init_b126 _ _ _ _ _ _ _ hf
  refine q_newarr2 (N := 60100) E hH kA_long (by decide) (by decide) (by decide) hz_38 (q_nwb (kd := 2) (n := 60100) hi hq hbd) dX7_init_124 (fun H hH => ?_)
  refine q_wc (c1 := zS (zN Z 2 60100) - zS Zi) (s1 := zC (zN Z 2 60100) - zC Zi) (q_bn1 hi) (q_bn2 hi) ?_
  exact bX7_init_126 E hR Zi (hi.tr q_le.nw) hbd h (zS Z) h (cN M_37 (zS Z)) _ _ _  hf hH (lv_sub hl [0] rfl)
def fX7_init_b109 (h : Nat) (s0 : Nat) (s1 : Nat) (Z : q_Z) (M : q_C) : Option (q_Z × q_C) :=
  q_gd (zK Z s1 == 17) <|
  q_nm (sR M s1 15 (some s0)) fun M_34 =>
  q_gd (zK Z (zS Z) == 0) <|
  fX7_init_b118 h (zS Z) h (zN Z 1 200) (cN M_34 (zS Z))
theorem moX7_init_b109 (h : Nat) (s0 : Nat) (s1 : Nat) (Z : q_Z) (M : q_C) (Z' : q_Z) (M' : q_C) (hf : fX7_init_b109 h s0 s1 Z M = some (Z', M')) : q_le Z Z' := by
  unfold fX7_init_b109 at hf
  obtain ⟨-, hf⟩ := q_gdE hf
  replace hf := q_nmE (x := _) rfl hf
  obtain ⟨-, hf⟩ := q_gdE hf
  exact (q_le.nw (kd := 1) (n := 200)).tr (moX7_init_b118 _ _ _ _ _ _ _ hf)
set_option maxHeartbeats 4000000 in
set_option maxRecDepth 100000 in
theorem bX7_init_109 (E : q_E p s m meth c cX7_init 1 RX7 none "<init>" D cA) (hR : 1 ≤ R.frames ∧ 20 ≤ R.locals) (Zi : q_Z) {Z : q_Z} (hi : q_le Zi Z) {Z' : q_Z} {M' : q_C} (hbd : zS Z' - zS Zi ≤ R.cells ∧ zC Z' - zC Zi ≤ R.slots)  (h : Nat) (s0 : Nat) (s1 : Nat) (M : q_C) (H : Heap) (locs : List Loc) (ls : Array Slot) (hf : fX7_init_b109 h s0 s1 Z M = some (Z', M')) (hH : q_Hh D cA z0 s Z M H locs) (hl : lv_has ls 1 [(0, .ref h)])  : W p l e R s m args below meth c H locs (zS Z - zS Zi) (zC Z - zC Zi) (MQ below (q_Q D cA z0 none Z' M') args s (zS Z' - zS Zi) (zC Z' - zC Zi) (fun q => z0 ≤ q)) (F0 m 109 ls [.ref s0, .ref s1]) := by
  have hx := E.1
  have hb := E.2.1
  have hown := E.2.2.2.1
  have hT := E.2.2.2.2.2.2.2.1
  have hcc := q_bd hi (moX7_init_b109 _ _ _ _ _ _ _ hf) hbd
  unfold fX7_init_b109 at hf
  obtain ⟨hk_33, hf⟩ := q_gdE hf
  have hk_33 := q_keq hk_33
  refine q_putRF E hH (ci := 7) rfl 15 (by decide) kF_X7_56 rfl rfl rfl (fun _ _ _ => rfl) (x := (some s0)) hk_33 (q_rff _ "" _ (Or.inr ⟨_, rfl⟩)).1 (q_rff _ "" _ (Or.inr ⟨_, rfl⟩)).2 dX7_init_109 hf (fun M_34 H locs hH hf => ?_)
  refine lv_aload_n hx hb dX7_init_112 rfl (lv_at hl 0 rfl) ?_
  refine lv_sipush (v := 200) hx hb dX7_init_113 (by decide) ?_
  obtain ⟨hz_35, hf⟩ := q_gdE hf
  have hz_35 := q_keq hz_35
  have hq : q_le (zN Z 1 200) Z' := moX7_init_b118 _ _ _ _ _ _ _ hf
  refine q_newarr1 (N := 200) E hH kA_int (by decide) (by decide) (by decide) hz_35 (q_nwb (kd := 1) (n := 200) hi hq hbd) dX7_init_116 (fun H hH => ?_)
  refine q_wc (c1 := zS (zN Z 1 200) - zS Zi) (s1 := zC (zN Z 1 200) - zC Zi) (q_bn1 hi) (q_bn2 hi) ?_
  exact bX7_init_118 E hR Zi (hi.tr q_le.nw) hbd h (zS Z) h (cN M_34 (zS Z)) _ _ _  hf hH (lv_sub hl [0] rfl)
def fX7_init_b60 (h : Nat) (s0 : Nat) (s1 : Nat) (Z : q_Z) (M : q_C) : Option (q_Z × q_C) :=
  q_gd (zK Z s1 == 17) <|
  q_nm (sR M s1 7 (some s0)) fun M_23 =>
  q_gd (zK Z h == 17) <|
  q_nm (sI M_23 h 8 (500 : Int32)) fun M_25 =>
  q_nm (sI M_25 h 9 (500 : Int32)) fun M_26 =>
  q_nm (sI M_26 h 10 (6 : Int32)) fun M_27 =>
  q_nm (sI M_27 h 11 (-1 : Int32)) fun M_28 =>
  q_nm (sI M_28 h 12 (-1 : Int32)) fun M_29 =>
  q_nm (sI M_29 h 13 (-1 : Int32)) fun M_30 =>
  q_nm (sI M_30 h 14 (0 : Int32)) fun M_31 =>
  q_gd (zK Z (zS Z) == 0) <|
  fX7_init_b109 h (zS Z) h (zN Z 1 200) (cN M_31 (zS Z))
theorem moX7_init_b60 (h : Nat) (s0 : Nat) (s1 : Nat) (Z : q_Z) (M : q_C) (Z' : q_Z) (M' : q_C) (hf : fX7_init_b60 h s0 s1 Z M = some (Z', M')) : q_le Z Z' := by
  unfold fX7_init_b60 at hf
  obtain ⟨-, hf⟩ := q_gdE hf
  replace hf := q_nmE (x := _) rfl hf
  obtain ⟨-, hf⟩ := q_gdE hf
  replace hf := q_nmE (x := _) rfl hf
  replace hf := q_nmE (x := _) rfl hf
  replace hf := q_nmE (x := _) rfl hf
  replace hf := q_nmE (x := _) rfl hf
  replace hf := q_nmE (x := _) rfl hf
  replace hf := q_nmE (x := _) rfl hf
  replace hf := q_nmE (x := _) rfl hf
  obtain ⟨-, hf⟩ := q_gdE hf
  exact (q_le.nw (kd := 1) (n := 200)).tr (moX7_init_b109 _ _ _ _ _ _ _ hf)
set_option maxHeartbeats 4000000 in
set_option maxRecDepth 100000 in
theorem bX7_init_60 (E : q_E p s m meth c cX7_init 1 RX7 none "<init>" D cA) (hR : 1 ≤ R.frames ∧ 20 ≤ R.locals) (Zi : q_Z) {Z : q_Z} (hi : q_le Zi Z) {Z' : q_Z} {M' : q_C} (hbd : zS Z' - zS Zi ≤ R.cells ∧ zC Z' - zC Zi ≤ R.slots)  (h : Nat) (s0 : Nat) (s1 : Nat) (M : q_C) (H : Heap) (locs : List Loc) (ls : Array Slot) (hf : fX7_init_b60 h s0 s1 Z M = some (Z', M')) (hH : q_Hh D cA z0 s Z M H locs) (hl : lv_has ls 1 [(0, .ref h)])  : W p l e R s m args below meth c H locs (zS Z - zS Zi) (zC Z - zC Zi) (MQ below (q_Q D cA z0 none Z' M') args s (zS Z' - zS Zi) (zC Z' - zC Zi) (fun q => z0 ≤ q)) (F0 m 60 ls [.ref s0, .ref s1]) := by
  have hx := E.1
  have hb := E.2.1
  have hown := E.2.2.2.1
  have hT := E.2.2.2.2.2.2.2.1
  have hcc := q_bd hi (moX7_init_b60 _ _ _ _ _ _ _ hf) hbd
  unfold fX7_init_b60 at hf
  obtain ⟨hk_22, hf⟩ := q_gdE hf
  have hk_22 := q_keq hk_22
  refine q_putRF E hH (ci := 7) rfl 7 (by decide) kF_X7_32 rfl rfl rfl (fun _ _ _ => rfl) (x := (some s0)) hk_22 (q_rff _ "" _ (Or.inr ⟨_, rfl⟩)).1 (q_rff _ "" _ (Or.inr ⟨_, rfl⟩)).2 dX7_init_60 hf (fun M_23 H locs hH hf => ?_)
  refine lv_aload_n hx hb dX7_init_63 rfl (lv_at hl 0 rfl) ?_
  refine lv_sipush (v := 500) hx hb dX7_init_64 (by decide) ?_
  obtain ⟨hk_24, hf⟩ := q_gdE hf
  have hk_24 := q_keq hk_24
  refine q_putI E hH (ci := 7) rfl 8 (by decide) kF_X7_35 rfl (fun _ _ _ => rfl) (x := (500 : Int32)) hk_24 rfl rfl dX7_init_67 hf (fun M_25 H locs hH hf => ?_)
  refine lv_aload_n hx hb dX7_init_70 rfl (lv_at hl 0 rfl) ?_
  refine lv_sipush (v := 500) hx hb dX7_init_71 (by decide) ?_
  refine q_putI E hH (ci := 7) rfl 9 (by decide) kF_X7_38 rfl (fun _ _ _ => rfl) (x := (500 : Int32)) hk_24 rfl rfl dX7_init_74 hf (fun M_26 H locs hH hf => ?_)
  refine lv_aload_n hx hb dX7_init_77 rfl (lv_at hl 0 rfl) ?_
  refine lv_bipush (v := 6) hx hb dX7_init_78 (by decide) ?_
  refine q_putI E hH (ci := 7) rfl 10 (by decide) kF_X7_41 rfl (fun _ _ _ => rfl) (x := (6 : Int32)) hk_24 rfl rfl dX7_init_80 hf (fun M_27 H locs hH hf => ?_)
  refine lv_aload_n hx hb dX7_init_83 rfl (lv_at hl 0 rfl) ?_
  refine lv_iconst (v := -1) hx hb dX7_init_84 (by decide) ?_
  refine q_putI E hH (ci := 7) rfl 11 (by decide) kF_X7_44 rfl (fun _ _ _ => rfl) (x := (-1 : Int32)) hk_24 rfl rfl dX7_init_85 hf (fun M_28 H locs hH hf => ?_)
  refine lv_aload_n hx hb dX7_init_88 rfl (lv_at hl 0 rfl) ?_
  refine lv_iconst (v := -1) hx hb dX7_init_89 (by decide) ?_
  refine q_putI E hH (ci := 7) rfl 12 (by decide) kF_X7_47 rfl (fun _ _ _ => rfl) (x := (-1 : Int32)) hk_24 rfl rfl dX7_init_90 hf (fun M_29 H locs hH hf => ?_)
  refine lv_aload_n hx hb dX7_init_93 rfl (lv_at hl 0 rfl) ?_
  refine lv_iconst (v := -1) hx hb dX7_init_94 (by decide) ?_
  refine q_putI E hH (ci := 7) rfl 13 (by decide) kF_X7_50 rfl (fun _ _ _ => rfl) (x := (-1 : Int32)) hk_24 rfl rfl dX7_init_95 hf (fun M_30 H locs hH hf => ?_)
  refine lv_aload_n hx hb dX7_init_98 rfl (lv_at hl 0 rfl) ?_
  refine lv_iconst (v := 0) hx hb dX7_init_99 (by decide) ?_
  refine q_putI E hH (ci := 7) rfl 14 (by decide) kF_X7_53 rfl (fun _ _ _ => rfl) (x := (0 : Int32)) hk_24 rfl rfl dX7_init_100 hf (fun M_31 H locs hH hf => ?_)
  refine lv_aload_n hx hb dX7_init_103 rfl (lv_at hl 0 rfl) ?_
  refine lv_sipush (v := 200) hx hb dX7_init_104 (by decide) ?_
  obtain ⟨hz_32, hf⟩ := q_gdE hf
  have hz_32 := q_keq hz_32
  have hq : q_le (zN Z 1 200) Z' := moX7_init_b109 _ _ _ _ _ _ _ hf
  refine q_newarr1 (N := 200) E hH kA_int (by decide) (by decide) (by decide) hz_32 (q_nwb (kd := 1) (n := 200) hi hq hbd) dX7_init_107 (fun H hH => ?_)
  refine q_wc (c1 := zS (zN Z 1 200) - zS Zi) (s1 := zC (zN Z 1 200) - zC Zi) (q_bn1 hi) (q_bn2 hi) ?_
  exact bX7_init_109 E hR Zi (hi.tr q_le.nw) hbd h (zS Z) h (cN M_31 (zS Z)) _ _ _  hf hH (lv_sub hl [0] rfl)
def fX7_init_b47 (h : Nat) (s0 : Nat) (s1 : Nat) (Z : q_Z) (M : q_C) : Option (q_Z × q_C) :=
  q_gd (zK Z s1 == 17) <|
  q_nm (sR M s1 5 (some s0)) fun M_18 =>
  q_gd (zK Z h == 17) <|
  q_nm (sI M_18 h 6 (0 : Int32)) fun M_20 =>
  q_gd (zK Z (zS Z) == 0) <|
  fX7_init_b60 h (zS Z) h (zN Z 1 60) (cN M_20 (zS Z))
theorem moX7_init_b47 (h : Nat) (s0 : Nat) (s1 : Nat) (Z : q_Z) (M : q_C) (Z' : q_Z) (M' : q_C) (hf : fX7_init_b47 h s0 s1 Z M = some (Z', M')) : q_le Z Z' := by
  unfold fX7_init_b47 at hf
  obtain ⟨-, hf⟩ := q_gdE hf
  replace hf := q_nmE (x := _) rfl hf
  obtain ⟨-, hf⟩ := q_gdE hf
  replace hf := q_nmE (x := _) rfl hf
  obtain ⟨-, hf⟩ := q_gdE hf
  exact (q_le.nw (kd := 1) (n := 60)).tr (moX7_init_b60 _ _ _ _ _ _ _ hf)
set_option maxHeartbeats 4000000 in
set_option maxRecDepth 100000 in
theorem bX7_init_47 (E : q_E p s m meth c cX7_init 1 RX7 none "<init>" D cA) (hR : 1 ≤ R.frames ∧ 20 ≤ R.locals) (Zi : q_Z) {Z : q_Z} (hi : q_le Zi Z) {Z' : q_Z} {M' : q_C} (hbd : zS Z' - zS Zi ≤ R.cells ∧ zC Z' - zC Zi ≤ R.slots)  (h : Nat) (s0 : Nat) (s1 : Nat) (M : q_C) (H : Heap) (locs : List Loc) (ls : Array Slot) (hf : fX7_init_b47 h s0 s1 Z M = some (Z', M')) (hH : q_Hh D cA z0 s Z M H locs) (hl : lv_has ls 1 [(0, .ref h)])  : W p l e R s m args below meth c H locs (zS Z - zS Zi) (zC Z - zC Zi) (MQ below (q_Q D cA z0 none Z' M') args s (zS Z' - zS Zi) (zC Z' - zC Zi) (fun q => z0 ≤ q)) (F0 m 47 ls [.ref s0, .ref s1]) := by
  have hx := E.1
  have hb := E.2.1
  have hown := E.2.2.2.1
  have hT := E.2.2.2.2.2.2.2.1
  have hcc := q_bd hi (moX7_init_b47 _ _ _ _ _ _ _ hf) hbd
  unfold fX7_init_b47 at hf
  obtain ⟨hk_17, hf⟩ := q_gdE hf
  have hk_17 := q_keq hk_17
  refine q_putRF E hH (ci := 7) rfl 5 (by decide) kF_X7_25 rfl rfl rfl (fun _ _ _ => rfl) (x := (some s0)) hk_17 (q_rff _ "" _ (Or.inr ⟨_, rfl⟩)).1 (q_rff _ "" _ (Or.inr ⟨_, rfl⟩)).2 dX7_init_47 hf (fun M_18 H locs hH hf => ?_)
  refine lv_aload_n hx hb dX7_init_50 rfl (lv_at hl 0 rfl) ?_
  refine lv_iconst (v := 0) hx hb dX7_init_51 (by decide) ?_
  obtain ⟨hk_19, hf⟩ := q_gdE hf
  have hk_19 := q_keq hk_19
  refine q_putI E hH (ci := 7) rfl 6 (by decide) kF_X7_28 rfl (fun _ _ _ => rfl) (x := (0 : Int32)) hk_19 rfl rfl dX7_init_52 hf (fun M_20 H locs hH hf => ?_)
  refine lv_aload_n hx hb dX7_init_55 rfl (lv_at hl 0 rfl) ?_
  refine lv_bipush (v := 60) hx hb dX7_init_56 (by decide) ?_
  obtain ⟨hz_21, hf⟩ := q_gdE hf
  have hz_21 := q_keq hz_21
  have hq : q_le (zN Z 1 60) Z' := moX7_init_b60 _ _ _ _ _ _ _ hf
  refine q_newarr1 (N := 60) E hH kA_int (by decide) (by decide) (by decide) hz_21 (q_nwb (kd := 1) (n := 60) hi hq hbd) dX7_init_58 (fun H hH => ?_)
  refine q_wc (c1 := zS (zN Z 1 60) - zS Zi) (s1 := zC (zN Z 1 60) - zC Zi) (q_bn1 hi) (q_bn2 hi) ?_
  exact bX7_init_60 E hR Zi (hi.tr q_le.nw) hbd h (zS Z) h (cN M_20 (zS Z)) _ _ _  hf hH (lv_sub hl [0] rfl)
def fX7_init_b40 (h : Nat) (s0 : Nat) (s1 : Nat) (Z : q_Z) (M : q_C) : Option (q_Z × q_C) :=
  q_gd (zK Z s1 == 17) <|
  q_nm (sR M s1 4 (some s0)) fun M_15 =>
  q_gd (zK Z (zS Z) == 0) <|
  fX7_init_b47 h (zS Z) h (zN Z 1 2) (cN M_15 (zS Z))
theorem moX7_init_b40 (h : Nat) (s0 : Nat) (s1 : Nat) (Z : q_Z) (M : q_C) (Z' : q_Z) (M' : q_C) (hf : fX7_init_b40 h s0 s1 Z M = some (Z', M')) : q_le Z Z' := by
  unfold fX7_init_b40 at hf
  obtain ⟨-, hf⟩ := q_gdE hf
  replace hf := q_nmE (x := _) rfl hf
  obtain ⟨-, hf⟩ := q_gdE hf
  exact (q_le.nw (kd := 1) (n := 2)).tr (moX7_init_b47 _ _ _ _ _ _ _ hf)
set_option maxHeartbeats 4000000 in
set_option maxRecDepth 100000 in
theorem bX7_init_40 (E : q_E p s m meth c cX7_init 1 RX7 none "<init>" D cA) (hR : 1 ≤ R.frames ∧ 20 ≤ R.locals) (Zi : q_Z) {Z : q_Z} (hi : q_le Zi Z) {Z' : q_Z} {M' : q_C} (hbd : zS Z' - zS Zi ≤ R.cells ∧ zC Z' - zC Zi ≤ R.slots)  (h : Nat) (s0 : Nat) (s1 : Nat) (M : q_C) (H : Heap) (locs : List Loc) (ls : Array Slot) (hf : fX7_init_b40 h s0 s1 Z M = some (Z', M')) (hH : q_Hh D cA z0 s Z M H locs) (hl : lv_has ls 1 [(0, .ref h)])  : W p l e R s m args below meth c H locs (zS Z - zS Zi) (zC Z - zC Zi) (MQ below (q_Q D cA z0 none Z' M') args s (zS Z' - zS Zi) (zC Z' - zC Zi) (fun q => z0 ≤ q)) (F0 m 40 ls [.ref s0, .ref s1]) := by
  have hx := E.1
  have hb := E.2.1
  have hown := E.2.2.2.1
  have hT := E.2.2.2.2.2.2.2.1
  have hcc := q_bd hi (moX7_init_b40 _ _ _ _ _ _ _ hf) hbd
  unfold fX7_init_b40 at hf
  obtain ⟨hk_14, hf⟩ := q_gdE hf
  have hk_14 := q_keq hk_14
  refine q_putRF E hH (ci := 7) rfl 4 (by decide) kF_X7_22 rfl rfl rfl (fun _ _ _ => rfl) (x := (some s0)) hk_14 (q_rff _ "" _ (Or.inr ⟨_, rfl⟩)).1 (q_rff _ "" _ (Or.inr ⟨_, rfl⟩)).2 dX7_init_40 hf (fun M_15 H locs hH hf => ?_)
  refine lv_aload_n hx hb dX7_init_43 rfl (lv_at hl 0 rfl) ?_
  refine lv_iconst (v := 2) hx hb dX7_init_44 (by decide) ?_
  obtain ⟨hz_16, hf⟩ := q_gdE hf
  have hz_16 := q_keq hz_16
  have hq : q_le (zN Z 1 2) Z' := moX7_init_b47 _ _ _ _ _ _ _ hf
  refine q_newarr1 (N := 2) E hH kA_int (by decide) (by decide) (by decide) hz_16 (q_nwb (kd := 1) (n := 2) hi hq hbd) dX7_init_45 (fun H hH => ?_)
  refine q_wc (c1 := zS (zN Z 1 2) - zS Zi) (s1 := zC (zN Z 1 2) - zC Zi) (q_bn1 hi) (q_bn2 hi) ?_
  exact bX7_init_47 E hR Zi (hi.tr q_le.nw) hbd h (zS Z) h (cN M_15 (zS Z)) _ _ _  hf hH (lv_sub hl [0] rfl)
def fX7_init_b33 (h : Nat) (s0 : Nat) (s1 : Nat) (Z : q_Z) (M : q_C) : Option (q_Z × q_C) :=
  q_gd (zK Z s1 == 17) <|
  q_nm (sR M s1 3 (some s0)) fun M_12 =>
  q_gd (zK Z (zS Z) == 0) <|
  fX7_init_b40 h (zS Z) h (zN Z 1 2) (cN M_12 (zS Z))
theorem moX7_init_b33 (h : Nat) (s0 : Nat) (s1 : Nat) (Z : q_Z) (M : q_C) (Z' : q_Z) (M' : q_C) (hf : fX7_init_b33 h s0 s1 Z M = some (Z', M')) : q_le Z Z' := by
  unfold fX7_init_b33 at hf
  obtain ⟨-, hf⟩ := q_gdE hf
  replace hf := q_nmE (x := _) rfl hf
  obtain ⟨-, hf⟩ := q_gdE hf
  exact (q_le.nw (kd := 1) (n := 2)).tr (moX7_init_b40 _ _ _ _ _ _ _ hf)
set_option maxHeartbeats 4000000 in
set_option maxRecDepth 100000 in
theorem bX7_init_33 (E : q_E p s m meth c cX7_init 1 RX7 none "<init>" D cA) (hR : 1 ≤ R.frames ∧ 20 ≤ R.locals) (Zi : q_Z) {Z : q_Z} (hi : q_le Zi Z) {Z' : q_Z} {M' : q_C} (hbd : zS Z' - zS Zi ≤ R.cells ∧ zC Z' - zC Zi ≤ R.slots)  (h : Nat) (s0 : Nat) (s1 : Nat) (M : q_C) (H : Heap) (locs : List Loc) (ls : Array Slot) (hf : fX7_init_b33 h s0 s1 Z M = some (Z', M')) (hH : q_Hh D cA z0 s Z M H locs) (hl : lv_has ls 1 [(0, .ref h)])  : W p l e R s m args below meth c H locs (zS Z - zS Zi) (zC Z - zC Zi) (MQ below (q_Q D cA z0 none Z' M') args s (zS Z' - zS Zi) (zC Z' - zC Zi) (fun q => z0 ≤ q)) (F0 m 33 ls [.ref s0, .ref s1]) := by
  have hx := E.1
  have hb := E.2.1
  have hown := E.2.2.2.1
  have hT := E.2.2.2.2.2.2.2.1
  have hcc := q_bd hi (moX7_init_b33 _ _ _ _ _ _ _ hf) hbd
  unfold fX7_init_b33 at hf
  obtain ⟨hk_11, hf⟩ := q_gdE hf
  have hk_11 := q_keq hk_11
  refine q_putRF E hH (ci := 7) rfl 3 (by decide) kF_X7_19 rfl rfl rfl (fun _ _ _ => rfl) (x := (some s0)) hk_11 (q_rff _ "" _ (Or.inr ⟨_, rfl⟩)).1 (q_rff _ "" _ (Or.inr ⟨_, rfl⟩)).2 dX7_init_33 hf (fun M_12 H locs hH hf => ?_)
  refine lv_aload_n hx hb dX7_init_36 rfl (lv_at hl 0 rfl) ?_
  refine lv_iconst (v := 2) hx hb dX7_init_37 (by decide) ?_
  obtain ⟨hz_13, hf⟩ := q_gdE hf
  have hz_13 := q_keq hz_13
  have hq : q_le (zN Z 1 2) Z' := moX7_init_b40 _ _ _ _ _ _ _ hf
  refine q_newarr1 (N := 2) E hH kA_int (by decide) (by decide) (by decide) hz_13 (q_nwb (kd := 1) (n := 2) hi hq hbd) dX7_init_38 (fun H hH => ?_)
  refine q_wc (c1 := zS (zN Z 1 2) - zS Zi) (s1 := zC (zN Z 1 2) - zC Zi) (q_bn1 hi) (q_bn2 hi) ?_
  exact bX7_init_40 E hR Zi (hi.tr q_le.nw) hbd h (zS Z) h (cN M_12 (zS Z)) _ _ _  hf hH (lv_sub hl [0] rfl)
def fX7_init_b24 (h : Nat) (s0 : Nat) (s1 : Nat) (Z : q_Z) (M : q_C) : Option (q_Z × q_C) :=
  q_gd (zK Z s1 == 17) <|
  q_nm (sR M s1 2 (some s0)) fun M_9 =>
  q_gd (zK Z (zS Z) == 0) <|
  fX7_init_b33 h (zS Z) h (zN Z 1 160) (cN M_9 (zS Z))
theorem moX7_init_b24 (h : Nat) (s0 : Nat) (s1 : Nat) (Z : q_Z) (M : q_C) (Z' : q_Z) (M' : q_C) (hf : fX7_init_b24 h s0 s1 Z M = some (Z', M')) : q_le Z Z' := by
  unfold fX7_init_b24 at hf
  obtain ⟨-, hf⟩ := q_gdE hf
  replace hf := q_nmE (x := _) rfl hf
  obtain ⟨-, hf⟩ := q_gdE hf
  exact (q_le.nw (kd := 1) (n := 160)).tr (moX7_init_b33 _ _ _ _ _ _ _ hf)
set_option maxHeartbeats 4000000 in
set_option maxRecDepth 100000 in
theorem bX7_init_24 (E : q_E p s m meth c cX7_init 1 RX7 none "<init>" D cA) (hR : 1 ≤ R.frames ∧ 20 ≤ R.locals) (Zi : q_Z) {Z : q_Z} (hi : q_le Zi Z) {Z' : q_Z} {M' : q_C} (hbd : zS Z' - zS Zi ≤ R.cells ∧ zC Z' - zC Zi ≤ R.slots)  (h : Nat) (s0 : Nat) (s1 : Nat) (M : q_C) (H : Heap) (locs : List Loc) (ls : Array Slot) (hf : fX7_init_b24 h s0 s1 Z M = some (Z', M')) (hH : q_Hh D cA z0 s Z M H locs) (hl : lv_has ls 1 [(0, .ref h)])  : W p l e R s m args below meth c H locs (zS Z - zS Zi) (zC Z - zC Zi) (MQ below (q_Q D cA z0 none Z' M') args s (zS Z' - zS Zi) (zC Z' - zC Zi) (fun q => z0 ≤ q)) (F0 m 24 ls [.ref s0, .ref s1]) := by
  have hx := E.1
  have hb := E.2.1
  have hown := E.2.2.2.1
  have hT := E.2.2.2.2.2.2.2.1
  have hcc := q_bd hi (moX7_init_b24 _ _ _ _ _ _ _ hf) hbd
  unfold fX7_init_b24 at hf
  obtain ⟨hk_8, hf⟩ := q_gdE hf
  have hk_8 := q_keq hk_8
  refine q_putRF E hH (ci := 7) rfl 2 (by decide) kF_X7_16 rfl rfl rfl (fun _ _ _ => rfl) (x := (some s0)) hk_8 (q_rff _ "" _ (Or.inr ⟨_, rfl⟩)).1 (q_rff _ "" _ (Or.inr ⟨_, rfl⟩)).2 dX7_init_24 hf (fun M_9 H locs hH hf => ?_)
  refine lv_aload_n hx hb dX7_init_27 rfl (lv_at hl 0 rfl) ?_
  refine lv_sipush (v := 160) hx hb dX7_init_28 (by decide) ?_
  obtain ⟨hz_10, hf⟩ := q_gdE hf
  have hz_10 := q_keq hz_10
  have hq : q_le (zN Z 1 160) Z' := moX7_init_b33 _ _ _ _ _ _ _ hf
  refine q_newarr1 (N := 160) E hH kA_int (by decide) (by decide) (by decide) hz_10 (q_nwb (kd := 1) (n := 160) hi hq hbd) dX7_init_31 (fun H hH => ?_)
  refine q_wc (c1 := zS (zN Z 1 160) - zS Zi) (s1 := zC (zN Z 1 160) - zC Zi) (q_bn1 hi) (q_bn2 hi) ?_
  exact bX7_init_33 E hR Zi (hi.tr q_le.nw) hbd h (zS Z) h (cN M_9 (zS Z)) _ _ _  hf hH (lv_sub hl [0] rfl)
def fX7_init_b17 (h : Nat) (s0 : Nat) (s1 : Nat) (Z : q_Z) (M : q_C) : Option (q_Z × q_C) :=
  q_gd (zK Z s1 == 17) <|
  q_nm (sR M s1 1 (some s0)) fun M_6 =>
  q_gd (zK Z (zS Z) == 0) <|
  fX7_init_b24 h (zS Z) h (zN Z 1 2) (cN M_6 (zS Z))
theorem moX7_init_b17 (h : Nat) (s0 : Nat) (s1 : Nat) (Z : q_Z) (M : q_C) (Z' : q_Z) (M' : q_C) (hf : fX7_init_b17 h s0 s1 Z M = some (Z', M')) : q_le Z Z' := by
  unfold fX7_init_b17 at hf
  obtain ⟨-, hf⟩ := q_gdE hf
  replace hf := q_nmE (x := _) rfl hf
  obtain ⟨-, hf⟩ := q_gdE hf
  exact (q_le.nw (kd := 1) (n := 2)).tr (moX7_init_b24 _ _ _ _ _ _ _ hf)
set_option maxHeartbeats 4000000 in
set_option maxRecDepth 100000 in
theorem bX7_init_17 (E : q_E p s m meth c cX7_init 1 RX7 none "<init>" D cA) (hR : 1 ≤ R.frames ∧ 20 ≤ R.locals) (Zi : q_Z) {Z : q_Z} (hi : q_le Zi Z) {Z' : q_Z} {M' : q_C} (hbd : zS Z' - zS Zi ≤ R.cells ∧ zC Z' - zC Zi ≤ R.slots)  (h : Nat) (s0 : Nat) (s1 : Nat) (M : q_C) (H : Heap) (locs : List Loc) (ls : Array Slot) (hf : fX7_init_b17 h s0 s1 Z M = some (Z', M')) (hH : q_Hh D cA z0 s Z M H locs) (hl : lv_has ls 1 [(0, .ref h)])  : W p l e R s m args below meth c H locs (zS Z - zS Zi) (zC Z - zC Zi) (MQ below (q_Q D cA z0 none Z' M') args s (zS Z' - zS Zi) (zC Z' - zC Zi) (fun q => z0 ≤ q)) (F0 m 17 ls [.ref s0, .ref s1]) := by
  have hx := E.1
  have hb := E.2.1
  have hown := E.2.2.2.1
  have hT := E.2.2.2.2.2.2.2.1
  have hcc := q_bd hi (moX7_init_b17 _ _ _ _ _ _ _ hf) hbd
  unfold fX7_init_b17 at hf
  obtain ⟨hk_5, hf⟩ := q_gdE hf
  have hk_5 := q_keq hk_5
  refine q_putRF E hH (ci := 7) rfl 1 (by decide) kF_X7_13 rfl rfl rfl (fun _ _ _ => rfl) (x := (some s0)) hk_5 (q_rff _ "" _ (Or.inr ⟨_, rfl⟩)).1 (q_rff _ "" _ (Or.inr ⟨_, rfl⟩)).2 dX7_init_17 hf (fun M_6 H locs hH hf => ?_)
  refine lv_aload_n hx hb dX7_init_20 rfl (lv_at hl 0 rfl) ?_
  refine lv_iconst (v := 2) hx hb dX7_init_21 (by decide) ?_
  obtain ⟨hz_7, hf⟩ := q_gdE hf
  have hz_7 := q_keq hz_7
  have hq : q_le (zN Z 1 2) Z' := moX7_init_b24 _ _ _ _ _ _ _ hf
  refine q_newarr1 (N := 2) E hH kA_int (by decide) (by decide) (by decide) hz_7 (q_nwb (kd := 1) (n := 2) hi hq hbd) dX7_init_22 (fun H hH => ?_)
  refine q_wc (c1 := zS (zN Z 1 2) - zS Zi) (s1 := zC (zN Z 1 2) - zC Zi) (q_bn1 hi) (q_bn2 hi) ?_
  exact bX7_init_24 E hR Zi (hi.tr q_le.nw) hbd h (zS Z) h (cN M_6 (zS Z)) _ _ _  hf hH (lv_sub hl [0] rfl)
def fX7_init_b8 (h : Nat) (s0 : Nat) (s1 : Nat) (Z : q_Z) (M : q_C) : Option (q_Z × q_C) :=
  q_gd (zK Z s1 == 17) <|
  q_nm (sR M s1 0 (some s0)) fun M_3 =>
  q_gd (zK Z (zS Z) == 0) <|
  fX7_init_b17 h (zS Z) h (zN Z 1 160) (cN M_3 (zS Z))
theorem moX7_init_b8 (h : Nat) (s0 : Nat) (s1 : Nat) (Z : q_Z) (M : q_C) (Z' : q_Z) (M' : q_C) (hf : fX7_init_b8 h s0 s1 Z M = some (Z', M')) : q_le Z Z' := by
  unfold fX7_init_b8 at hf
  obtain ⟨-, hf⟩ := q_gdE hf
  replace hf := q_nmE (x := _) rfl hf
  obtain ⟨-, hf⟩ := q_gdE hf
  exact (q_le.nw (kd := 1) (n := 160)).tr (moX7_init_b17 _ _ _ _ _ _ _ hf)
set_option maxHeartbeats 4000000 in
set_option maxRecDepth 100000 in
theorem bX7_init_8 (E : q_E p s m meth c cX7_init 1 RX7 none "<init>" D cA) (hR : 1 ≤ R.frames ∧ 20 ≤ R.locals) (Zi : q_Z) {Z : q_Z} (hi : q_le Zi Z) {Z' : q_Z} {M' : q_C} (hbd : zS Z' - zS Zi ≤ R.cells ∧ zC Z' - zC Zi ≤ R.slots)  (h : Nat) (s0 : Nat) (s1 : Nat) (M : q_C) (H : Heap) (locs : List Loc) (ls : Array Slot) (hf : fX7_init_b8 h s0 s1 Z M = some (Z', M')) (hH : q_Hh D cA z0 s Z M H locs) (hl : lv_has ls 1 [(0, .ref h)])  : W p l e R s m args below meth c H locs (zS Z - zS Zi) (zC Z - zC Zi) (MQ below (q_Q D cA z0 none Z' M') args s (zS Z' - zS Zi) (zC Z' - zC Zi) (fun q => z0 ≤ q)) (F0 m 8 ls [.ref s0, .ref s1]) := by
  have hx := E.1
  have hb := E.2.1
  have hown := E.2.2.2.1
  have hT := E.2.2.2.2.2.2.2.1
  have hcc := q_bd hi (moX7_init_b8 _ _ _ _ _ _ _ hf) hbd
  unfold fX7_init_b8 at hf
  obtain ⟨hk_2, hf⟩ := q_gdE hf
  have hk_2 := q_keq hk_2
  refine q_putRF E hH (ci := 7) rfl 0 (by decide) kF_X7_7 rfl rfl rfl (fun _ _ _ => rfl) (x := (some s0)) hk_2 (q_rff _ "" _ (Or.inr ⟨_, rfl⟩)).1 (q_rff _ "" _ (Or.inr ⟨_, rfl⟩)).2 dX7_init_8 hf (fun M_3 H locs hH hf => ?_)
  refine lv_aload_n hx hb dX7_init_11 rfl (lv_at hl 0 rfl) ?_
  refine lv_sipush (v := 160) hx hb dX7_init_12 (by decide) ?_
  obtain ⟨hz_4, hf⟩ := q_gdE hf
  have hz_4 := q_keq hz_4
  have hq : q_le (zN Z 1 160) Z' := moX7_init_b17 _ _ _ _ _ _ _ hf
  refine q_newarr1 (N := 160) E hH kA_int (by decide) (by decide) (by decide) hz_4 (q_nwb (kd := 1) (n := 160) hi hq hbd) dX7_init_15 (fun H hH => ?_)
  refine q_wc (c1 := zS (zN Z 1 160) - zS Zi) (s1 := zC (zN Z 1 160) - zC Zi) (q_bn1 hi) (q_bn2 hi) ?_
  exact bX7_init_17 E hR Zi (hi.tr q_le.nw) hbd h (zS Z) h (cN M_3 (zS Z)) _ _ _  hf hH (lv_sub hl [0] rfl)
def fX7_init (h : Nat) (Z : q_Z) (M : q_C) : Option (q_Z × q_C) :=
  q_gd (zK Z (zS Z) == 0) <|
  fX7_init_b8 h (zS Z) h (zN Z 1 2) (cN M (zS Z))
theorem moX7_init (h : Nat) (Z : q_Z) (M : q_C) (Z' : q_Z) (M' : q_C) (hf : fX7_init h Z M = some (Z', M')) : q_le Z Z' := by
  unfold fX7_init at hf
  obtain ⟨-, hf⟩ := q_gdE hf
  exact (q_le.nw (kd := 1) (n := 2)).tr (moX7_init_b8 _ _ _ _ _ _ _ hf)
set_option maxHeartbeats 4000000 in
set_option maxRecDepth 100000 in
theorem bX7_init_0 (E : q_E p s m meth c cX7_init 1 RX7 none "<init>" D cA) (hR : 1 ≤ R.frames ∧ 20 ≤ R.locals) (Zi : q_Z) {Z : q_Z} (hi : q_le Zi Z) {Z' : q_Z} {M' : q_C} (hbd : zS Z' - zS Zi ≤ R.cells ∧ zC Z' - zC Zi ≤ R.slots)  (h : Nat) (M : q_C) (H : Heap) (locs : List Loc) (ls : Array Slot) (hf : fX7_init h Z M = some (Z', M')) (hH : q_Hh D cA z0 s Z M H locs) (hl : lv_has ls 1 [(0, .ref h)])  : W p l e R s m args below meth c H locs (zS Z - zS Zi) (zC Z - zC Zi) (MQ below (q_Q D cA z0 none Z' M') args s (zS Z' - zS Zi) (zC Z' - zC Zi) (fun q => z0 ≤ q)) (F0 m 0 ls []) := by
  have hx := E.1
  have hb := E.2.1
  have hown := E.2.2.2.1
  have hT := E.2.2.2.2.2.2.2.1
  have hcc := q_bd hi (moX7_init _ _ _ _ _ hf) hbd
  unfold fX7_init at hf
  refine lv_aload_n hx hb dX7_init_0 rfl (lv_at hl 0 rfl) ?_
  refine q_oinit E kM_X7_1 kO_in kO_cd hl.1 (Nat.le_trans (by decide) hR.1) (Nat.le_trans (by decide) hR.2) dX7_init_1 ?_
  refine lv_aload_n hx hb dX7_init_4 rfl (lv_at hl 0 rfl) ?_
  refine lv_iconst (v := 2) hx hb dX7_init_5 (by decide) ?_
  obtain ⟨hz_1, hf⟩ := q_gdE hf
  have hz_1 := q_keq hz_1
  have hq : q_le (zN Z 1 2) Z' := moX7_init_b8 _ _ _ _ _ _ _ hf
  refine q_newarr1 (N := 2) E hH kA_int (by decide) (by decide) (by decide) hz_1 (q_nwb (kd := 1) (n := 2) hi hq hbd) dX7_init_6 (fun H hH => ?_)
  refine q_wc (c1 := zS (zN Z 1 2) - zS Zi) (s1 := zC (zN Z 1 2) - zC Zi) (q_bn1 hi) (q_bn2 hi) ?_
  exact bX7_init_8 E hR Zi (hi.tr q_le.nw) hbd h (zS Z) h (cN M (zS Z)) _ _ _  hf hH (lv_sub hl [0] rfl)
set_option maxRecDepth 100000 in
theorem tX7_init (l : Launch) (D : va_G) (cA : Nat → ClassId) (z0 : Nat) (h : Nat) (Z : q_Z) (M : q_C) (Z' : q_Z) (M' : q_C) (hf : fX7_init h Z M = some (Z', M')) : q_Ct l D cA z0 yX7_init cX7_init 1 none 1 20 [.ref h] Z M none Z' M' (zS Z' - zS Z) (zC Z' - zC Z) := by
  (refine q_start (plainFor_of_name (by decide)) (Nat.le_of_ble_eq_true rfl) (fun p e s m below meth c H ls E hH hl => ?_)
   refine q_wc (c1 := zS Z - zS Z) (s1 := zC Z - zC Z) (Nat.sub_self _).symm (Nat.sub_self _).symm ?_
   exact bX7_init_0 E ⟨Nat.le_refl _, Nat.le_refl _⟩ Z q_le.rf ⟨Nat.le_refl _, Nat.le_refl _⟩ h M H [] ls hf hH hl)
def fX6_store_b13 (h : Nat) (Z : q_Z) (M : q_C) : Option (q_Z × q_C) :=
  some (Z, M)
theorem moX6_store_b13 (h : Nat) (Z : q_Z) (M : q_C) (Z' : q_Z) (M' : q_C) (hf : fX6_store_b13 h Z M = some (Z', M')) : q_le Z Z' := by
  unfold fX6_store_b13 at hf
  cases hf
  exact q_le.rf
set_option maxHeartbeats 4000000 in
set_option maxRecDepth 100000 in
theorem bX6_store_13 (E : q_E p s m meth c cX6_store 2 RX6 none "store" D cA) (hR : 2 ≤ R.frames ∧ 40 ≤ R.locals) (Zi : q_Z) {Z : q_Z} (hi : q_le Zi Z) {Z' : q_Z} {M' : q_C} (hbd : zS Z' - zS Zi ≤ R.cells ∧ zC Z' - zC Zi ≤ R.slots)  (h : Nat) (M : q_C) (H : Heap) (locs : List Loc) (ls : Array Slot) (hf : fX6_store_b13 h Z M = some (Z', M')) (hH : q_Hh D cA z0 s Z M H locs) (hl : lv_has ls 2 [])  : W p l e R s m args below meth c H locs (zS Z - zS Zi) (zC Z - zC Zi) (MQ below (q_Q D cA z0 none Z' M') args s (zS Z' - zS Zi) (zC Z' - zC Zi) (fun q => z0 ≤ q)) (F0 m 13 ls []) := by
  have hx := E.1
  have hb := E.2.1
  have hown := E.2.2.2.1
  have hT := E.2.2.2.2.2.2.2.1
  have hcc := q_bd hi (moX6_store_b13 _ _ _ _ _ hf) hbd
  unfold fX6_store_b13 at hf
  cases hf
  exact q_vret E hH dX6_store_13
def fX6_store_b36 (h : Nat) (v1 : Int32) (Z : q_Z) (M : q_C) : Option (q_Z × q_C) :=
  q_gd (zK Z h == 16) <|
  Option.bind (gR M h 9) fun a_19 =>
  q_gd (q_ok Z a_19 4 v1) <|
  Option.bind (gR M h 13) fun a_22 =>
  Option.bind (gR M a_19 v1.toNatClampNeg) fun a_24 =>
  q_gd (zK Z a_24 == 15) <|
  Option.bind (fX5_become a_24 (some a_22) Z M) fun M_28 =>
  some (Z, M_28)
theorem moX6_store_b36 (h : Nat) (v1 : Int32) (Z : q_Z) (M : q_C) (Z' : q_Z) (M' : q_C) (hf : fX6_store_b36 h v1 Z M = some (Z', M')) : q_le Z Z' := by
  unfold fX6_store_b36 at hf
  obtain ⟨-, hf⟩ := q_gdE hf
  obtain ⟨a_19, -, hf⟩ := q_biE hf
  obtain ⟨-, hf⟩ := q_gdE hf
  obtain ⟨a_22, -, hf⟩ := q_biE hf
  obtain ⟨a_24, -, hf⟩ := q_biE hf
  obtain ⟨-, hf⟩ := q_gdE hf
  obtain ⟨M_28, hw_27, hf⟩ := q_biE hf
  cases hf
  exact q_le.rf
set_option maxHeartbeats 4000000 in
set_option maxRecDepth 100000 in
theorem bX6_store_36 (E : q_E p s m meth c cX6_store 2 RX6 none "store" D cA) (hR : 2 ≤ R.frames ∧ 40 ≤ R.locals) (Zi : q_Z) {Z : q_Z} (hi : q_le Zi Z) {Z' : q_Z} {M' : q_C} (hbd : zS Z' - zS Zi ≤ R.cells ∧ zC Z' - zC Zi ≤ R.slots)  (h : Nat) (v1 : Int32) (M : q_C) (H : Heap) (locs : List Loc) (ls : Array Slot) (hf : fX6_store_b36 h v1 Z M = some (Z', M')) (hH : q_Hh D cA z0 s Z M H locs) (hl : lv_has ls 2 [(0, .ref h), (1, .int v1)])  : W p l e R s m args below meth c H locs (zS Z - zS Zi) (zC Z - zC Zi) (MQ below (q_Q D cA z0 none Z' M') args s (zS Z' - zS Zi) (zC Z' - zC Zi) (fun q => z0 ≤ q)) (F0 m 36 ls []) := by
  have hx := E.1
  have hb := E.2.1
  have hown := E.2.2.2.1
  have hT := E.2.2.2.2.2.2.2.1
  have hcc := q_bd hi (moX6_store_b36 _ _ _ _ _ _ hf) hbd
  unfold fX6_store_b36 at hf
  refine lv_aload_n hx hb dX6_store_36 rfl (lv_at hl 0 rfl) ?_
  obtain ⟨hk_18, hf⟩ := q_gdE hf
  have hk_18 := q_keq hk_18
  refine q_getR E hH (ci := 6) rfl 9 (by decide) kF_X6_46 (fun _ _ _ => rfl) hk_18 dX6_store_37 ?_
  obtain ⟨a_19, he_20, hf⟩ := q_biE hf
  rw [he_20]
  refine lv_iload_n hx hb dX6_store_40 rfl (lv_at hl 1 rfl) ?_
  obtain ⟨hz_21, hf⟩ := q_gdE hf
  refine q_aaload4 E hH hz_21 dX6_store_41 ?_
  refine lv_aload_n hx hb dX6_store_42 rfl (lv_at hl 0 rfl) ?_
  refine q_getR E hH (ci := 6) rfl 13 (by decide) kF_X6_64 (fun _ _ _ => rfl) hk_18 dX6_store_43 ?_
  obtain ⟨a_22, he_23, hf⟩ := q_biE hf
  rw [he_23]
  obtain ⟨a_24, he_25, hf⟩ := q_biE hf
  rw [he_25]
  obtain ⟨hk_26, hf⟩ := q_gdE hf
  have hk_26 := q_keq hk_26
  obtain ⟨M_28, hw_27, hf⟩ := q_biE hf
  refine q_cV (As := [.ref a_22]) (rest := []) (st1 := []) E hH (tX5_become l D cA z0 a_24 (some a_22) Z M M_28 hw_27) mw_X5_become mi_X5_become (ci := 5) rfl ms_X5_become kM_X6_231 hk_26 hcc rfl rfl rfl hl.1 rfl rfl (Nat.le_of_ble_eq_true rfl) ⟨Nat.le_trans (by decide) hR.1, Nat.le_trans (by decide) hR.2⟩ dX6_store_46 (fun H locs hH => ?_)
  cases hf
  exact q_vret E hH dX6_store_49
def fX6_store_b31 (h : Nat) (v1 : Int32) (s0 : Nat) (s1 : Int32) (s2 : Nat) (Z : q_Z) (M : q_C) : Option (q_Z × q_C) :=
  Option.bind (fX5_init s0 Z M) fun M_14 =>
  q_gd (q_ok Z s2 4 s1) <|
  q_gd (zK Z s0 == 15) <|
  q_nm (sR M_14 s2 s1.toNatClampNeg (some s0)) fun M_17 =>
  fX6_store_b36 h v1 Z M_17
theorem moX6_store_b31 (h : Nat) (v1 : Int32) (s0 : Nat) (s1 : Int32) (s2 : Nat) (Z : q_Z) (M : q_C) (Z' : q_Z) (M' : q_C) (hf : fX6_store_b31 h v1 s0 s1 s2 Z M = some (Z', M')) : q_le Z Z' := by
  unfold fX6_store_b31 at hf
  obtain ⟨M_14, hw_13, hf⟩ := q_biE hf
  obtain ⟨-, hf⟩ := q_gdE hf
  obtain ⟨-, hf⟩ := q_gdE hf
  replace hf := q_nmE (x := _) rfl hf
  exact moX6_store_b36 _ _ _ _ _ _ hf
set_option maxHeartbeats 4000000 in
set_option maxRecDepth 100000 in
theorem bX6_store_31 (E : q_E p s m meth c cX6_store 2 RX6 none "store" D cA) (hR : 2 ≤ R.frames ∧ 40 ≤ R.locals) (Zi : q_Z) {Z : q_Z} (hi : q_le Zi Z) {Z' : q_Z} {M' : q_C} (hbd : zS Z' - zS Zi ≤ R.cells ∧ zC Z' - zC Zi ≤ R.slots)  (h : Nat) (v1 : Int32) (s0 : Nat) (s1 : Int32) (s2 : Nat) (M : q_C) (H : Heap) (locs : List Loc) (ls : Array Slot) (hf : fX6_store_b31 h v1 s0 s1 s2 Z M = some (Z', M')) (hH : q_Hh D cA z0 s Z M H locs) (hl : lv_has ls 2 [(0, .ref h), (1, .int v1)])  : W p l e R s m args below meth c H locs (zS Z - zS Zi) (zC Z - zC Zi) (MQ below (q_Q D cA z0 none Z' M') args s (zS Z' - zS Zi) (zC Z' - zC Zi) (fun q => z0 ≤ q)) (F0 m 31 ls [.ref s0, .int s1, .ref s2]) := by
  have hx := E.1
  have hb := E.2.1
  have hown := E.2.2.2.1
  have hT := E.2.2.2.2.2.2.2.1
  have hcc := q_bd hi (moX6_store_b31 _ _ _ _ _ _ _ _ _ hf) hbd
  unfold fX6_store_b31 at hf
  refine lv_dup hx hb dX6_store_31 rfl ?_
  obtain ⟨M_14, hw_13, hf⟩ := q_biE hf
  refine q_cIN (As := []) (rest := [.ref s0, .int s1, .ref s2]) (st1 := [.ref s0, .int s1, .ref s2]) E hH (tX5_init l D cA z0 s0 Z M M_14 hw_13) mw_X5_init mi_X5_init rfl kM_X6_63 hcc rfl rfl rfl hl.1 rfl rfl (Nat.le_of_ble_eq_true rfl) ⟨Nat.le_trans (by decide) hR.1, Nat.le_trans (by decide) hR.2⟩ dX6_store_32 (fun H locs hH => ?_)
  obtain ⟨hz_15, hf⟩ := q_gdE hf
  obtain ⟨hk_16, hf⟩ := q_gdE hf
  have hk_16 := q_keq hk_16
  refine q_aastore4 E hH hz_15 hk_16 dX6_store_35 hf (fun M_17 H locs hH hf => ?_)
  exact bX6_store_36 E hR Zi hi hbd h v1 M_17 _ _ _  hf hH (lv_sub hl [0, 1] rfl)
def fX6_store (h : Nat) (v1 : Int32) (Z : q_Z) (M : q_C) : Option (q_Z × q_C) :=
  if v1 < 0 then
    fX6_store_b13 h Z M
  else
    q_gd (zK Z h == 16) <|
    Option.bind (gR M h 9) fun a_2 =>
    q_gd (zK Z a_2 == 4) <|
    if v1 < nI (zL Z a_2) then
      Option.bind (gR M h 9) fun a_5 =>
      q_gd (q_ok Z a_5 4 v1) <|
      q_on (gR M a_5 v1.toNatClampNeg) (
        Option.bind (gR M h 9) fun a_10 =>
        q_gd (zK Z (zS Z) == 0) <|
        fX6_store_b31 h v1 (zS Z) v1 a_10 (zN Z 15 11) (cN M (zS Z))
      ) fun a_9 =>
        fX6_store_b36 h v1 Z M
    else
      fX6_store_b13 h Z M
theorem moX6_store (h : Nat) (v1 : Int32) (Z : q_Z) (M : q_C) (Z' : q_Z) (M' : q_C) (hf : fX6_store h v1 Z M = some (Z', M')) : q_le Z Z' := by
  unfold fX6_store at hf
  rcases q_ifC hf with hf | hf
  · exact moX6_store_b13 _ _ _ _ _ hf
  · obtain ⟨-, hf⟩ := q_gdE hf
    obtain ⟨a_2, -, hf⟩ := q_biE hf
    obtain ⟨-, hf⟩ := q_gdE hf
    rcases q_ifC hf with hf | hf
    · obtain ⟨a_5, -, hf⟩ := q_biE hf
      obtain ⟨-, hf⟩ := q_gdE hf
      rcases q_onC hf with hf | ⟨a_9, hf⟩
      · obtain ⟨a_10, -, hf⟩ := q_biE hf
        obtain ⟨-, hf⟩ := q_gdE hf
        exact (q_le.nw (kd := 15) (n := 11)).tr (moX6_store_b31 _ _ _ _ _ _ _ _ _ hf)
      · exact moX6_store_b36 _ _ _ _ _ _ hf
    · exact moX6_store_b13 _ _ _ _ _ hf
set_option maxHeartbeats 4000000 in
set_option maxRecDepth 100000 in
theorem bX6_store_0 (E : q_E p s m meth c cX6_store 2 RX6 none "store" D cA) (hR : 2 ≤ R.frames ∧ 40 ≤ R.locals) (Zi : q_Z) {Z : q_Z} (hi : q_le Zi Z) {Z' : q_Z} {M' : q_C} (hbd : zS Z' - zS Zi ≤ R.cells ∧ zC Z' - zC Zi ≤ R.slots)  (h : Nat) (v1 : Int32) (M : q_C) (H : Heap) (locs : List Loc) (ls : Array Slot) (hf : fX6_store h v1 Z M = some (Z', M')) (hH : q_Hh D cA z0 s Z M H locs) (hl : lv_has ls 2 [(0, .ref h), (1, .int v1)])  : W p l e R s m args below meth c H locs (zS Z - zS Zi) (zC Z - zC Zi) (MQ below (q_Q D cA z0 none Z' M') args s (zS Z' - zS Zi) (zC Z' - zC Zi) (fun q => z0 ≤ q)) (F0 m 0 ls []) := by
  have hx := E.1
  have hb := E.2.1
  have hown := E.2.2.2.1
  have hT := E.2.2.2.2.2.2.2.1
  have hcc := q_bd hi (moX6_store _ _ _ _ _ _ hf) hbd
  unfold fX6_store at hf
  refine lv_iload_n hx hb dX6_store_0 rfl (lv_at hl 1 rfl) ?_
  refine lv_if_lt (tgt := 13) hx hb dX6_store_1 (by decide) (fun cc_30 => ?_) (fun cc_30 => ?_)
  · replace hf := q_ifT cc_30 hf
    clear cc_30
    exact bX6_store_13 E hR Zi hi hbd h M _ _ _  hf hH (lv_sub hl [] rfl)
  · replace hf := q_ifF cc_30 hf
    clear cc_30
    refine lv_iload_n hx hb dX6_store_4 rfl (lv_at hl 1 rfl) ?_
    refine lv_aload_n hx hb dX6_store_5 rfl (lv_at hl 0 rfl) ?_
    obtain ⟨hk_1, hf⟩ := q_gdE hf
    have hk_1 := q_keq hk_1
    refine q_getR E hH (ci := 6) rfl 9 (by decide) kF_X6_46 (fun _ _ _ => rfl) hk_1 dX6_store_6 ?_
    obtain ⟨a_2, he_3, hf⟩ := q_biE hf
    rw [he_3]
    obtain ⟨hk_4, hf⟩ := q_gdE hf
    have hk_4 := q_keq hk_4
    refine q_alen4 E hH hk_4 dX6_store_9 ?_
    refine lv_icmp_lt (tgt := 14) hx hb dX6_store_10 (by decide) (fun cc_29 => ?_) (fun cc_29 => ?_)
    · replace hf := q_ifT cc_29 hf
      clear cc_29
      refine lv_aload_n hx hb dX6_store_14 rfl (lv_at hl 0 rfl) ?_
      refine q_getR E hH (ci := 6) rfl 9 (by decide) kF_X6_46 (fun _ _ _ => rfl) hk_1 dX6_store_15 ?_
      obtain ⟨a_5, he_6, hf⟩ := q_biE hf
      rw [he_6]
      refine lv_iload_n hx hb dX6_store_18 rfl (lv_at hl 1 rfl) ?_
      obtain ⟨hz_7, hf⟩ := q_gdE hf
      refine q_aaload4 E hH hz_7 dX6_store_19 ?_
      refine q_ifnonnull (tgt := 36) hx hb dX6_store_20 (by decide) hf (fun cc_8 hf => ?_) (fun a_9 cc_8 hf => ?_)
      · clear cc_8
        refine lv_aload_n hx hb dX6_store_23 rfl (lv_at hl 0 rfl) ?_
        refine q_getR E hH (ci := 6) rfl 9 (by decide) kF_X6_46 (fun _ _ _ => rfl) hk_1 dX6_store_24 ?_
        obtain ⟨a_10, he_11, hf⟩ := q_biE hf
        rw [he_11]
        refine lv_iload_n hx hb dX6_store_27 rfl (lv_at hl 1 rfl) ?_
        obtain ⟨hz_12, hf⟩ := q_gdE hf
        have hz_12 := q_keq hz_12
        have hq : q_le (zN Z 15 11) Z' := moX6_store_b31 _ _ _ _ _ _ _ _ _ hf
        refine q_new E hH (ci := 5) rfl kC_X6_44 kI_X5 kN_X5 hz_12 (q_nwb (kd := 15) (n := 11) hi hq hbd) dX6_store_28 (fun H hH => ?_)
        refine q_wc (c1 := zS (zN Z 15 11) - zS Zi) (s1 := zC (zN Z 15 11) - zC Zi) (q_bn1 hi) (q_bn2 hi) ?_
        exact bX6_store_31 E hR Zi (hi.tr q_le.nw) hbd h v1 (zS Z) v1 a_10 (cN M (zS Z)) _ _ _  hf hH (lv_sub hl [0, 1] rfl)
      · clear cc_8
        exact bX6_store_36 E hR Zi hi hbd h v1 M _ _ _  hf hH (lv_sub hl [0, 1] rfl)
    · replace hf := q_ifF cc_29 hf
      clear cc_29
      exact bX6_store_13 E hR Zi hi hbd h M _ _ _  hf hH (lv_sub hl [] rfl)
set_option maxRecDepth 100000 in
theorem tX6_store (l : Launch) (D : va_G) (cA : Nat → ClassId) (z0 : Nat) (h : Nat) (v1 : Int32) (Z : q_Z) (M : q_C) (Z' : q_Z) (M' : q_C) (hf : fX6_store h v1 Z M = some (Z', M')) : q_Ct l D cA z0 yX6_store cX6_store 2 none 2 40 [.ref h, .int v1] Z M none Z' M' (zS Z' - zS Z) (zC Z' - zC Z) := by
  (refine q_start (plainFor_of_name (by decide)) (Nat.le_of_ble_eq_true rfl) (fun p e s m below meth c H ls E hH hl => ?_)
   refine q_wc (c1 := zS Z - zS Z) (s1 := zC Z - zC Z) (Nat.sub_self _).symm (Nat.sub_self _).symm ?_
   exact bX6_store_0 E ⟨Nat.le_refl _, Nat.le_refl _⟩ Z q_le.rf ⟨Nat.le_refl _, Nat.le_refl _⟩ h _ M H [] ls hf hH hl)
end Q241
