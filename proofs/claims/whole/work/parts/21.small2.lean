section Q212
variable {p : Program} {l : Launch} {e : Env} {R : Room} {s : State} {m : MethodId} {args : Array Value} {below : List Frame} {meth : Method} {c : Code} {D : va_G} {cA : Nat → ClassId} {z0 : Nat}
def fX2_takes_b123 (h : Nat) (s0 : Int32) (Z : q_Z) (M : q_C) : Option (Int32) :=
  q_gd (decide (s0 = 0) || decide (s0 = 1)) <|
  some s0
set_option maxHeartbeats 4000000 in
set_option maxRecDepth 100000 in
theorem bX2_takes_123 {cells slots : Nat} (E : q_E p s m meth c cX2_takes 14 RX2 (some .boolean) "takes" D cA) (hR : 2 ≤ R.frames ∧ 43 ≤ R.locals) (hcc : cells ≤ R.cells ∧ slots ≤ R.slots) (h : Nat) (s0 : Int32) (Z : q_Z) (M : q_C) (H : Heap) (locs : List Loc) (ls : Array Slot) (r : Int32) (hf : fX2_takes_b123 h s0 Z M = some r) (hH : q_Hh D cA z0 s Z M H locs) (hl : lv_has ls 14 [])  : W p l e R s m args below meth c H locs cells slots (MQ below (q_Q D cA z0 (some (.int r)) Z M) args s cells slots (fun q => z0 ≤ q)) (F0 m 123 ls [.int s0]) := by
  have hx := E.1
  have hb := E.2.1
  have hown := E.2.2.2.1
  have hT := E.2.2.2.2.2.2.2.1
  unfold fX2_takes_b123 at hf
  obtain ⟨hz_18, hf⟩ := q_gdE hf
  cases hf
  exact q_zret E hH hz_18 dX2_takes_123
def fX2_takes_b122 (h : Nat) (Z : q_Z) (M : q_C) : Option (Int32) :=
  fX2_takes_b123 h (0 : Int32) Z M
set_option maxHeartbeats 4000000 in
set_option maxRecDepth 100000 in
theorem bX2_takes_122 {cells slots : Nat} (E : q_E p s m meth c cX2_takes 14 RX2 (some .boolean) "takes" D cA) (hR : 2 ≤ R.frames ∧ 43 ≤ R.locals) (hcc : cells ≤ R.cells ∧ slots ≤ R.slots) (h : Nat) (Z : q_Z) (M : q_C) (H : Heap) (locs : List Loc) (ls : Array Slot) (r : Int32) (hf : fX2_takes_b122 h Z M = some r) (hH : q_Hh D cA z0 s Z M H locs) (hl : lv_has ls 14 [])  : W p l e R s m args below meth c H locs cells slots (MQ below (q_Q D cA z0 (some (.int r)) Z M) args s cells slots (fun q => z0 ≤ q)) (F0 m 122 ls []) := by
  have hx := E.1
  have hb := E.2.1
  have hown := E.2.2.2.1
  have hT := E.2.2.2.2.2.2.2.1
  unfold fX2_takes_b122 at hf
  refine lv_iconst (v := 0) hx hb dX2_takes_122 (by decide) ?_
  exact bX2_takes_123 E hR hcc h (0 : Int32) Z M _ _ _ _ hf hH (lv_sub hl [] rfl)
def fX2_takes_b50 (h : Nat) (v6 : Int64) (s0 : Int64) (Z : q_Z) (M : q_C) : Option (Int32) :=
  q_gd (zK Z h == 12) <|
  q_nm ((((gI M h 2).toInt64) * v6) + (((gI M h 3).toInt64) * s0)) fun v10_14 =>
  Option.bind (fJ9_abs_067f4 ((((gI M h 2).toInt64) * s0) - (((gI M h 3).toInt64) * v6))) fun r_16 =>
  if v10_14 ≤ (0 : Int64) then
    fX2_takes_b122 h Z M
  else
    if ((gI M h 4).toInt64) * v10_14 < (1000 : Int64) * r_16 then
      fX2_takes_b122 h Z M
    else
      fX2_takes_b123 h (1 : Int32) Z M
set_option maxHeartbeats 4000000 in
set_option maxRecDepth 100000 in
theorem bX2_takes_50 {cells slots : Nat} (E : q_E p s m meth c cX2_takes 14 RX2 (some .boolean) "takes" D cA) (hR : 2 ≤ R.frames ∧ 43 ≤ R.locals) (hcc : cells ≤ R.cells ∧ slots ≤ R.slots) (h : Nat) (v6 : Int64) (s0 : Int64) (Z : q_Z) (M : q_C) (H : Heap) (locs : List Loc) (ls : Array Slot) (r : Int32) (hf : fX2_takes_b50 h v6 s0 Z M = some r) (hH : q_Hh D cA z0 s Z M H locs) (hl : lv_has ls 14 [(0, .ref h), (6, .long v6)])  : W p l e R s m args below meth c H locs cells slots (MQ below (q_Q D cA z0 (some (.int r)) Z M) args s cells slots (fun q => z0 ≤ q)) (F0 m 50 ls [.long s0]) := by
  have hx := E.1
  have hb := E.2.1
  have hown := E.2.2.2.1
  have hT := E.2.2.2.2.2.2.2.1
  unfold fX2_takes_b50 at hf
  refine lv_lstore (lv' := [(8, .long s0), (0, .ref h), (6, .long v6)]) hx hb dX2_takes_50 hl (by decide) rfl (fun ls hl => ?_)
  refine lv_aload_n hx hb dX2_takes_52 rfl (lv_at hl 1 rfl) ?_
  obtain ⟨hk_13, hf⟩ := q_gdE hf
  have hk_13 := q_keq hk_13
  refine q_getI E hH (ci := 2) rfl 2 (by decide) kF_X2_18 (fun _ _ _ => rfl) hk_13 dX2_takes_53 ?_
  refine lv_i2l hx hb dX2_takes_56 rfl ?_
  refine lv_lload hx hb dX2_takes_57 (lv_at hl 2 rfl) ?_
  refine lv_lmul hx hb dX2_takes_59 ?_
  refine lv_aload_n hx hb dX2_takes_60 rfl (lv_at hl 1 rfl) ?_
  refine q_getI E hH (ci := 2) rfl 3 (by decide) kF_X2_21 (fun _ _ _ => rfl) hk_13 dX2_takes_61 ?_
  refine lv_i2l hx hb dX2_takes_64 rfl ?_
  refine lv_lload hx hb dX2_takes_65 (lv_at hl 0 rfl) ?_
  refine lv_lmul hx hb dX2_takes_67 ?_
  refine lv_ladd hx hb dX2_takes_68 ?_
  refine lv_topl (fun v10_14 hn_15 => ?_)
  replace hf := q_nmE hn_15 hf
  clear hn_15
  refine lv_lstore (lv' := [(10, .long v10_14), (8, .long s0), (0, .ref h), (6, .long v6)]) hx hb dX2_takes_69 hl (by decide) rfl (fun ls hl => ?_)
  refine lv_aload_n hx hb dX2_takes_71 rfl (lv_at hl 2 rfl) ?_
  refine q_getI E hH (ci := 2) rfl 2 (by decide) kF_X2_18 (fun _ _ _ => rfl) hk_13 dX2_takes_72 ?_
  refine lv_i2l hx hb dX2_takes_75 rfl ?_
  refine lv_lload hx hb dX2_takes_76 (lv_at hl 1 rfl) ?_
  refine lv_lmul hx hb dX2_takes_78 ?_
  refine lv_aload_n hx hb dX2_takes_79 rfl (lv_at hl 2 rfl) ?_
  refine q_getI E hH (ci := 2) rfl 3 (by decide) kF_X2_21 (fun _ _ _ => rfl) hk_13 dX2_takes_80 ?_
  refine lv_i2l hx hb dX2_takes_83 rfl ?_
  refine lv_lload hx hb dX2_takes_84 (lv_at hl 3 rfl) ?_
  refine lv_lmul hx hb dX2_takes_86 ?_
  refine lv_lsub hx hb dX2_takes_87 ?_
  obtain ⟨r_16, hw_17, hf⟩ := q_biE hf
  refine q_cS (As := [.long ((((gI M h 2).toInt64) * s0) - (((gI M h 3).toInt64) * v6))]) (rest := []) (st1 := [.long r_16]) E hH (tJ9_abs_067f4 l D cA z0 Z M ((((gI M h 2).toInt64) * s0) - (((gI M h 3).toInt64) * v6)) r_16 hw_17) mw_J9_abs_067f4 mi_J9_abs_067f4 kM_X2_40 hcc rfl rfl rfl hl.1 rfl rfl (Nat.le_of_ble_eq_true rfl) ⟨Nat.le_trans (by decide) hR.1, Nat.le_trans (by decide) hR.2⟩ dX2_takes_88 (fun H locs hH => ?_)
  refine lv_lstore (lv' := [(12, .long r_16), (10, .long v10_14), (8, .long s0), (0, .ref h), (6, .long v6)]) hx hb dX2_takes_91 hl (by decide) rfl (fun ls hl => ?_)
  refine lv_lload hx hb dX2_takes_93 (lv_at hl 1 rfl) ?_
  refine lv_lconst (v := 0) hx hb dX2_takes_95 (by decide) ?_
  refine q_lcmp_le (pc1 := 97) (tgt := 122) hx hb dX2_takes_96 rfl dX2_takes_97 (by decide) (fun cc_20 => ?_) (fun cc_20 => ?_)
  · replace hf := q_ifT cc_20 hf
    clear cc_20
    exact bX2_takes_122 E hR hcc h Z M _ _ _ _ hf hH (lv_sub hl [] rfl)
  · replace hf := q_ifF cc_20 hf
    clear cc_20
    refine lv_ldc2 hx hb hown (hT.1 _ _ kK_X2_46) dX2_takes_100 ?_
    refine lv_lload hx hb dX2_takes_103 (lv_at hl 0 rfl) ?_
    refine lv_lmul hx hb dX2_takes_105 ?_
    refine lv_aload_n hx hb dX2_takes_106 rfl (lv_at hl 3 rfl) ?_
    refine q_getI E hH (ci := 2) rfl 4 (by decide) kF_X2_24 (fun _ _ _ => rfl) hk_13 dX2_takes_107 ?_
    refine lv_i2l hx hb dX2_takes_110 rfl ?_
    refine lv_lload hx hb dX2_takes_111 (lv_at hl 1 rfl) ?_
    refine lv_lmul hx hb dX2_takes_113 ?_
    refine q_lcmp_gt (pc1 := 115) (tgt := 122) hx hb dX2_takes_114 rfl dX2_takes_115 (by decide) (fun cc_19 => ?_) (fun cc_19 => ?_)
    · replace hf := q_ifT cc_19 hf
      clear cc_19
      exact bX2_takes_122 E hR hcc h Z M _ _ _ _ hf hH (lv_sub hl [] rfl)
    · replace hf := q_ifF cc_19 hf
      clear cc_19
      refine lv_iconst (v := 1) hx hb dX2_takes_118 (by decide) ?_
      refine lv_goto (tgt := 123) hx hb dX2_takes_119 (by decide) ?_
      exact bX2_takes_123 E hR hcc h (1 : Int32) Z M _ _ _ _ hf hH (lv_sub hl [] rfl)
def fX2_takes_b23 (h : Nat) (v1 : Option Nat) (v4 : Int64) (s0 : Int64) (Z : q_Z) (M : q_C) : Option (Int32) :=
  q_gd (zK Z h == 12) <|
  if gI M h 0 = (1 : Int32) then
    fX2_takes_b50 h s0 v4 Z M
  else
    Option.bind v1 fun a_8 =>
    q_gd (zK Z a_8 == 14) <|
    Option.bind (fX4_yAt a_8 (gI M h 1) Z M) fun r_11 =>
    fX2_takes_b50 h s0 (v4 - r_11.toInt64) Z M
set_option maxHeartbeats 4000000 in
set_option maxRecDepth 100000 in
theorem bX2_takes_23 {cells slots : Nat} (E : q_E p s m meth c cX2_takes 14 RX2 (some .boolean) "takes" D cA) (hR : 2 ≤ R.frames ∧ 43 ≤ R.locals) (hcc : cells ≤ R.cells ∧ slots ≤ R.slots) (h : Nat) (v1 : Option Nat) (v4 : Int64) (s0 : Int64) (Z : q_Z) (M : q_C) (H : Heap) (locs : List Loc) (ls : Array Slot) (r : Int32) (hf : fX2_takes_b23 h v1 v4 s0 Z M = some r) (hH : q_Hh D cA z0 s Z M H locs) (hl : lv_has ls 14 [(0, .ref h), (1, va_rf v1), (4, .long v4)])  : W p l e R s m args below meth c H locs cells slots (MQ below (q_Q D cA z0 (some (.int r)) Z M) args s cells slots (fun q => z0 ≤ q)) (F0 m 23 ls [.long s0]) := by
  have hx := E.1
  have hb := E.2.1
  have hown := E.2.2.2.1
  have hT := E.2.2.2.2.2.2.2.1
  unfold fX2_takes_b23 at hf
  refine lv_lstore (lv' := [(6, .long s0), (0, .ref h), (1, va_rf v1), (4, .long v4)]) hx hb dX2_takes_23 hl (by decide) rfl (fun ls hl => ?_)
  refine lv_aload_n hx hb dX2_takes_25 rfl (lv_at hl 1 rfl) ?_
  obtain ⟨hk_7, hf⟩ := q_gdE hf
  have hk_7 := q_keq hk_7
  refine q_getI E hH (ci := 2) rfl 0 (by decide) kF_X2_9 (fun _ _ _ => rfl) hk_7 dX2_takes_26 ?_
  refine lv_iconst (v := 1) hx hb dX2_takes_29 (by decide) ?_
  refine lv_icmp_ne (tgt := 38) hx hb dX2_takes_30 (by decide) (fun cc_21 => ?_) (fun cc_21 => ?_)
  · replace hf := q_ifF cc_21 hf
    clear cc_21
    refine lv_lload hx hb dX2_takes_38 (lv_at hl 3 rfl) ?_
    refine q_aload_n hx hb dX2_takes_40 rfl (lv_at hl 2 rfl) ?_
    refine lv_aload_n hx hb dX2_takes_41 rfl (lv_at hl 1 rfl) ?_
    refine q_getI E hH (ci := 2) rfl 1 (by decide) kF_X2_15 (fun _ _ _ => rfl) hk_7 dX2_takes_42 ?_
    obtain ⟨a_8, he_9, hf⟩ := q_biE hf
    subst he_9
    obtain ⟨hk_10, hf⟩ := q_gdE hf
    have hk_10 := q_keq hk_10
    obtain ⟨r_11, hw_12, hf⟩ := q_biE hf
    refine q_cV (As := [.int (gI M h 1)]) (rest := [.long v4]) (st1 := [.int r_11, .long v4]) E hH (tX4_yAt l D cA z0 a_8 (gI M h 1) Z M r_11 hw_12) mw_X4_yAt mi_X4_yAt (ci := 4) rfl ms_X4_yAt kM_X2_37 hk_10 hcc rfl rfl rfl hl.1 rfl rfl (Nat.le_of_ble_eq_true rfl) ⟨Nat.le_trans (by decide) hR.1, Nat.le_trans (by decide) hR.2⟩ dX2_takes_45 (fun H locs hH => ?_)
    refine lv_i2l hx hb dX2_takes_48 rfl ?_
    refine lv_lsub hx hb dX2_takes_49 ?_
    exact bX2_takes_50 E hR hcc h s0 (v4 - r_11.toInt64) Z M _ _ _ _ hf hH (lv_sub hl [1, 0] rfl)
  · replace hf := q_ifT cc_21 hf
    clear cc_21
    refine lv_lload hx hb dX2_takes_33 (lv_at hl 3 rfl) ?_
    refine lv_goto (tgt := 50) hx hb dX2_takes_35 (by decide) ?_
    exact bX2_takes_50 E hR hcc h s0 v4 Z M _ _ _ _ hf hH (lv_sub hl [1, 0] rfl)
def fX2_takes (h : Nat) (v1 : Option Nat) (v2 : Int64) (v4 : Int64) (Z : q_Z) (M : q_C) : Option (Int32) :=
  q_gd (zK Z h == 12) <|
  if gI M h 0 = (1 : Int32) then
    fX2_takes_b23 h v1 v4 v2 Z M
  else
    Option.bind v1 fun a_2 =>
    q_gd (zK Z a_2 == 14) <|
    Option.bind (fX4_xAt a_2 (gI M h 1) Z M) fun r_5 =>
    fX2_takes_b23 h (some a_2) v4 (v2 - r_5.toInt64) Z M
set_option maxHeartbeats 4000000 in
set_option maxRecDepth 100000 in
theorem bX2_takes_0 {cells slots : Nat} (E : q_E p s m meth c cX2_takes 14 RX2 (some .boolean) "takes" D cA) (hR : 2 ≤ R.frames ∧ 43 ≤ R.locals) (hcc : cells ≤ R.cells ∧ slots ≤ R.slots) (h : Nat) (v1 : Option Nat) (v2 : Int64) (v4 : Int64) (Z : q_Z) (M : q_C) (H : Heap) (locs : List Loc) (ls : Array Slot) (r : Int32) (hf : fX2_takes h v1 v2 v4 Z M = some r) (hH : q_Hh D cA z0 s Z M H locs) (hl : lv_has ls 14 [(0, .ref h), (1, va_rf v1), (2, .long v2), (4, .long v4)])  : W p l e R s m args below meth c H locs cells slots (MQ below (q_Q D cA z0 (some (.int r)) Z M) args s cells slots (fun q => z0 ≤ q)) (F0 m 0 ls []) := by
  have hx := E.1
  have hb := E.2.1
  have hown := E.2.2.2.1
  have hT := E.2.2.2.2.2.2.2.1
  unfold fX2_takes at hf
  refine lv_aload_n hx hb dX2_takes_0 rfl (lv_at hl 0 rfl) ?_
  obtain ⟨hk_1, hf⟩ := q_gdE hf
  have hk_1 := q_keq hk_1
  refine q_getI E hH (ci := 2) rfl 0 (by decide) kF_X2_9 (fun _ _ _ => rfl) hk_1 dX2_takes_1 ?_
  refine lv_iconst (v := 1) hx hb dX2_takes_4 (by decide) ?_
  refine lv_icmp_ne (tgt := 12) hx hb dX2_takes_5 (by decide) (fun cc_22 => ?_) (fun cc_22 => ?_)
  · replace hf := q_ifF cc_22 hf
    clear cc_22
    refine lv_lload_n hx hb dX2_takes_12 rfl (lv_at hl 2 rfl) ?_
    refine q_aload_n hx hb dX2_takes_13 rfl (lv_at hl 1 rfl) ?_
    refine lv_aload_n hx hb dX2_takes_14 rfl (lv_at hl 0 rfl) ?_
    refine q_getI E hH (ci := 2) rfl 1 (by decide) kF_X2_15 (fun _ _ _ => rfl) hk_1 dX2_takes_15 ?_
    obtain ⟨a_2, he_3, hf⟩ := q_biE hf
    subst he_3
    obtain ⟨hk_4, hf⟩ := q_gdE hf
    have hk_4 := q_keq hk_4
    obtain ⟨r_5, hw_6, hf⟩ := q_biE hf
    refine q_cV (As := [.int (gI M h 1)]) (rest := [.long v2]) (st1 := [.int r_5, .long v2]) E hH (tX4_xAt l D cA z0 a_2 (gI M h 1) Z M r_5 hw_6) mw_X4_xAt mi_X4_xAt (ci := 4) rfl ms_X4_xAt kM_X2_31 hk_4 hcc rfl rfl rfl hl.1 rfl rfl (Nat.le_of_ble_eq_true rfl) ⟨Nat.le_trans (by decide) hR.1, Nat.le_trans (by decide) hR.2⟩ dX2_takes_18 (fun H locs hH => ?_)
    refine lv_i2l hx hb dX2_takes_21 rfl ?_
    refine lv_lsub hx hb dX2_takes_22 ?_
    exact bX2_takes_23 E hR hcc h (some a_2) v4 (v2 - r_5.toInt64) Z M _ _ _ _ hf hH (lv_sub hl [0, 1, 3] rfl)
  · replace hf := q_ifT cc_22 hf
    clear cc_22
    refine lv_lload_n hx hb dX2_takes_8 rfl (lv_at hl 2 rfl) ?_
    refine lv_goto (tgt := 23) hx hb dX2_takes_9 (by decide) ?_
    exact bX2_takes_23 E hR hcc h v1 v4 v2 Z M _ _ _ _ hf hH (lv_sub hl [0, 1, 3] rfl)
set_option maxRecDepth 100000 in
theorem tX2_takes (l : Launch) (D : va_G) (cA : Nat → ClassId) (z0 : Nat) (h : Nat) (v1 : Option Nat) (v2 : Int64) (v4 : Int64) (Z : q_Z) (M : q_C) (r : Int32) (hf : fX2_takes h v1 v2 v4 Z M = some r) : q_Ct l D cA z0 yX2_takes cX2_takes 14 (some .boolean) 2 43 [.ref h, va_rf v1, .long v2, .long v4] Z M (some (.int r)) Z M 0 0 := by
  cases v1 <;>
  (refine q_start (plainFor_of_name (by decide)) (Nat.le_of_ble_eq_true rfl) (fun p e s m below meth c H ls E hH hl => ?_); exact bX2_takes_0 E ⟨Nat.le_refl _, Nat.le_refl _⟩ ⟨Nat.le_refl _, Nat.le_refl _⟩ h _ _ _ Z M H [] ls r hf hH hl)
def fX5_become (h : Nat) (v1 : Option Nat) (Z : q_Z) (M : q_C) : Option (q_C) :=
  Option.bind v1 fun a_1 =>
  q_gd (zK Z a_1 == 15) <|
  q_gd (zK Z h == 15) <|
  q_nm (sI M h 0 (gI M a_1 0)) fun M_5 =>
  q_nm (sI M_5 h 1 (gI M_5 a_1 1)) fun M_6 =>
  q_nm (sI M_6 h 2 (gI M_6 a_1 2)) fun M_7 =>
  q_nm (sI M_7 h 3 (gI M_7 a_1 3)) fun M_8 =>
  q_nm (sI M_8 h 4 (gI M_8 a_1 4)) fun M_9 =>
  q_nm (sI M_9 h 5 (gI M_9 a_1 5)) fun M_10 =>
  q_nm (sI M_10 h 6 (gI M_10 a_1 6)) fun M_11 =>
  q_gd (decide ((0 : Int32) = 0) || decide ((0 : Int32) = 1)) <|
  q_nm (sI M_11 h 7 (0 : Int32)) fun M_13 =>
  some M_13
set_option maxHeartbeats 4000000 in
set_option maxRecDepth 100000 in
theorem bX5_become_0 {cells slots : Nat} (E : q_E p s m meth c cX5_become 2 RX5 none "become" D cA) (hR : 0 ≤ R.frames ∧ 0 ≤ R.locals) (hcc : cells ≤ R.cells ∧ slots ≤ R.slots) (h : Nat) (v1 : Option Nat) (Z : q_Z) (M : q_C) (H : Heap) (locs : List Loc) (ls : Array Slot) (M' : q_C) (hf : fX5_become h v1 Z M = some M') (hH : q_Hh D cA z0 s Z M H locs) (hl : lv_has ls 2 [(0, .ref h), (1, va_rf v1)])  : W p l e R s m args below meth c H locs cells slots (MQ below (q_Q D cA z0 none Z M') args s cells slots (fun q => z0 ≤ q)) (F0 m 0 ls []) := by
  have hx := E.1
  have hb := E.2.1
  have hown := E.2.2.2.1
  have hT := E.2.2.2.2.2.2.2.1
  unfold fX5_become at hf
  refine lv_aload_n hx hb dX5_become_0 rfl (lv_at hl 0 rfl) ?_
  refine q_aload_n hx hb dX5_become_1 rfl (lv_at hl 1 rfl) ?_
  obtain ⟨a_1, he_2, hf⟩ := q_biE hf
  subst he_2
  obtain ⟨hk_3, hf⟩ := q_gdE hf
  have hk_3 := q_keq hk_3
  refine q_getI E hH (ci := 5) rfl 0 (by decide) kF_X5_9 (fun _ _ _ => rfl) hk_3 dX5_become_2 ?_
  obtain ⟨hk_4, hf⟩ := q_gdE hf
  have hk_4 := q_keq hk_4
  refine q_putI E hH (ci := 5) rfl 0 (by decide) kF_X5_9 rfl (fun _ _ _ => rfl) (x := gI M a_1 0) hk_4 rfl rfl dX5_become_5 hf (fun M_5 H locs hH hf => ?_)
  refine lv_aload_n hx hb dX5_become_8 rfl (lv_at hl 0 rfl) ?_
  refine lv_aload_n hx hb dX5_become_9 rfl (lv_at hl 1 rfl) ?_
  refine q_getI E hH (ci := 5) rfl 1 (by decide) kF_X5_15 (fun _ _ _ => rfl) hk_3 dX5_become_10 ?_
  refine q_putI E hH (ci := 5) rfl 1 (by decide) kF_X5_15 rfl (fun _ _ _ => rfl) (x := gI M_5 a_1 1) hk_4 rfl rfl dX5_become_13 hf (fun M_6 H locs hH hf => ?_)
  refine lv_aload_n hx hb dX5_become_16 rfl (lv_at hl 0 rfl) ?_
  refine lv_aload_n hx hb dX5_become_17 rfl (lv_at hl 1 rfl) ?_
  refine q_getI E hH (ci := 5) rfl 2 (by decide) kF_X5_18 (fun _ _ _ => rfl) hk_3 dX5_become_18 ?_
  refine q_putI E hH (ci := 5) rfl 2 (by decide) kF_X5_18 rfl (fun _ _ _ => rfl) (x := gI M_6 a_1 2) hk_4 rfl rfl dX5_become_21 hf (fun M_7 H locs hH hf => ?_)
  refine lv_aload_n hx hb dX5_become_24 rfl (lv_at hl 0 rfl) ?_
  refine lv_aload_n hx hb dX5_become_25 rfl (lv_at hl 1 rfl) ?_
  refine q_getI E hH (ci := 5) rfl 3 (by decide) kF_X5_21 (fun _ _ _ => rfl) hk_3 dX5_become_26 ?_
  refine q_putI E hH (ci := 5) rfl 3 (by decide) kF_X5_21 rfl (fun _ _ _ => rfl) (x := gI M_7 a_1 3) hk_4 rfl rfl dX5_become_29 hf (fun M_8 H locs hH hf => ?_)
  refine lv_aload_n hx hb dX5_become_32 rfl (lv_at hl 0 rfl) ?_
  refine lv_aload_n hx hb dX5_become_33 rfl (lv_at hl 1 rfl) ?_
  refine q_getI E hH (ci := 5) rfl 4 (by decide) kF_X5_24 (fun _ _ _ => rfl) hk_3 dX5_become_34 ?_
  refine q_putI E hH (ci := 5) rfl 4 (by decide) kF_X5_24 rfl (fun _ _ _ => rfl) (x := gI M_8 a_1 4) hk_4 rfl rfl dX5_become_37 hf (fun M_9 H locs hH hf => ?_)
  refine lv_aload_n hx hb dX5_become_40 rfl (lv_at hl 0 rfl) ?_
  refine lv_aload_n hx hb dX5_become_41 rfl (lv_at hl 1 rfl) ?_
  refine q_getI E hH (ci := 5) rfl 5 (by decide) kF_X5_27 (fun _ _ _ => rfl) hk_3 dX5_become_42 ?_
  refine q_putI E hH (ci := 5) rfl 5 (by decide) kF_X5_27 rfl (fun _ _ _ => rfl) (x := gI M_9 a_1 5) hk_4 rfl rfl dX5_become_45 hf (fun M_10 H locs hH hf => ?_)
  refine lv_aload_n hx hb dX5_become_48 rfl (lv_at hl 0 rfl) ?_
  refine lv_aload_n hx hb dX5_become_49 rfl (lv_at hl 1 rfl) ?_
  refine q_getI E hH (ci := 5) rfl 6 (by decide) kF_X5_30 (fun _ _ _ => rfl) hk_3 dX5_become_50 ?_
  refine q_putI E hH (ci := 5) rfl 6 (by decide) kF_X5_30 rfl (fun _ _ _ => rfl) (x := gI M_10 a_1 6) hk_4 rfl rfl dX5_become_53 hf (fun M_11 H locs hH hf => ?_)
  refine lv_aload_n hx hb dX5_become_56 rfl (lv_at hl 0 rfl) ?_
  refine lv_iconst (v := 0) hx hb dX5_become_57 (by decide) ?_
  obtain ⟨hz_12, hf⟩ := q_gdE hf
  refine q_putI E hH (ci := 5) rfl 7 (by decide) kF_X5_33 rfl (fun _ _ _ => rfl) (x := (0 : Int32)) hk_4 (q_zb hz_12).1 (q_zb hz_12).2 dX5_become_58 hf (fun M_13 H locs hH hf => ?_)
  cases hf
  exact q_vret E hH dX5_become_61
set_option maxRecDepth 100000 in
theorem tX5_become (l : Launch) (D : va_G) (cA : Nat → ClassId) (z0 : Nat) (h : Nat) (v1 : Option Nat) (Z : q_Z) (M : q_C) (M' : q_C) (hf : fX5_become h v1 Z M = some M') : q_Ct l D cA z0 yX5_become cX5_become 2 none 0 0 [.ref h, va_rf v1] Z M none Z M' 0 0 := by
  cases v1 <;>
  (refine q_start (plainFor_of_name (by decide)) (Nat.le_of_ble_eq_true rfl) (fun p e s m below meth c H ls E hH hl => ?_); exact bX5_become_0 E ⟨Nat.le_refl _, Nat.le_refl _⟩ ⟨Nat.le_refl _, Nat.le_refl _⟩ h _ Z M H [] ls M' hf hH hl)
def fX5_write_b51 (h : Nat) (Z : q_Z) (M : q_C) : Option (q_C) :=
  some M
set_option maxHeartbeats 4000000 in
set_option maxRecDepth 100000 in
theorem bX5_write_51 {cells slots : Nat} (E : q_E p s m meth c cX5_write 3 RX5 none "write" D cA) (hR : 0 ≤ R.frames ∧ 0 ≤ R.locals) (hcc : cells ≤ R.cells ∧ slots ≤ R.slots) (h : Nat) (Z : q_Z) (M : q_C) (H : Heap) (locs : List Loc) (ls : Array Slot) (M' : q_C) (hf : fX5_write_b51 h Z M = some M') (hH : q_Hh D cA z0 s Z M H locs) (hl : lv_has ls 3 [])  : W p l e R s m args below meth c H locs cells slots (MQ below (q_Q D cA z0 none Z M') args s cells slots (fun q => z0 ≤ q)) (F0 m 51 ls []) := by
  have hx := E.1
  have hb := E.2.1
  have hown := E.2.2.2.1
  have hT := E.2.2.2.2.2.2.2.1
  unfold fX5_write_b51 at hf
  cases hf
  exact q_vret E hH dX5_write_51
def fX5_write (h : Nat) (v1 : Option Nat) (Z : q_Z) (M : q_C) : Option (q_C) :=
  Option.bind v1 fun a_1 =>
  q_gd (zK Z a_1 == 10) <|
  q_nm ((gI M a_1 4) - (-300 : Int32)) fun v2_4 =>
  q_gd (zK Z h == 15) <|
  q_on (gR M h 10) (
    fX5_write_b51 h Z M
  ) fun a_8 =>
    if v2_4 < 0 then
      fX5_write_b51 h Z M
    else
      Option.bind (gR M h 10) fun a_9 =>
      q_gd (zK Z a_9 == 2) <|
      if nI (zL Z a_9) ≤ v2_4 then
        fX5_write_b51 h Z M
      else
        Option.bind (gR M h 10) fun a_12 =>
        q_gd (q_ok Z a_12 2 v2_4) <|
        q_nm (sJ M a_12 v2_4.toNatClampNeg (((gJ M a_1 0) <<< ((32 : Int32).toInt64 &&& 63)) ||| ((gJ M a_1 1) &&& (4294967295 : Int64)))) fun M_15 =>
        fX5_write_b51 h Z M_15
set_option maxHeartbeats 4000000 in
set_option maxRecDepth 100000 in
theorem bX5_write_0 {cells slots : Nat} (E : q_E p s m meth c cX5_write 3 RX5 none "write" D cA) (hR : 0 ≤ R.frames ∧ 0 ≤ R.locals) (hcc : cells ≤ R.cells ∧ slots ≤ R.slots) (h : Nat) (v1 : Option Nat) (Z : q_Z) (M : q_C) (H : Heap) (locs : List Loc) (ls : Array Slot) (M' : q_C) (hf : fX5_write h v1 Z M = some M') (hH : q_Hh D cA z0 s Z M H locs) (hl : lv_has ls 3 [(0, .ref h), (1, va_rf v1)])  : W p l e R s m args below meth c H locs cells slots (MQ below (q_Q D cA z0 none Z M') args s cells slots (fun q => z0 ≤ q)) (F0 m 0 ls []) := by
  have hx := E.1
  have hb := E.2.1
  have hown := E.2.2.2.1
  have hT := E.2.2.2.2.2.2.2.1
  unfold fX5_write at hf
  refine q_aload_n hx hb dX5_write_0 rfl (lv_at hl 1 rfl) ?_
  obtain ⟨a_1, he_2, hf⟩ := q_biE hf
  subst he_2
  obtain ⟨hk_3, hf⟩ := q_gdE hf
  have hk_3 := q_keq hk_3
  refine q_getIN E hH (ci := 0) rfl 4 (by decide) kF_X5_64 (fun _ _ _ => rfl) hk_3 dX5_write_1 ?_
  refine lv_sipush (v := -300) hx hb dX5_write_4 (by decide) ?_
  refine lv_isub hx hb dX5_write_7 ?_
  refine lv_topi (fun v2_4 hn_5 => ?_)
  replace hf := q_nmE hn_5 hf
  clear hn_5
  refine lv_istore_n (lv' := [(2, .int v2_4), (0, .ref h), (1, .ref a_1)]) hx hb dX5_write_8 rfl hl (by decide) rfl (fun ls hl => ?_)
  refine lv_aload_n hx hb dX5_write_9 rfl (lv_at hl 1 rfl) ?_
  obtain ⟨hk_6, hf⟩ := q_gdE hf
  have hk_6 := q_keq hk_6
  refine q_getR E hH (ci := 5) rfl 10 (by decide) kF_X5_43 (fun _ _ _ => rfl) hk_6 dX5_write_10 ?_
  refine q_ifnull (tgt := 51) hx hb dX5_write_13 (by decide) hf (fun cc_7 hf => ?_) (fun a_8 cc_7 hf => ?_)
  · clear cc_7
    exact bX5_write_51 E hR hcc h Z M _ _ _ _ hf hH (lv_sub hl [] rfl)
  · clear cc_7
    refine lv_iload_n hx hb dX5_write_16 rfl (lv_at hl 0 rfl) ?_
    refine lv_if_lt (tgt := 51) hx hb dX5_write_17 (by decide) (fun cc_17 => ?_) (fun cc_17 => ?_)
    · replace hf := q_ifT cc_17 hf
      clear cc_17
      exact bX5_write_51 E hR hcc h Z M _ _ _ _ hf hH (lv_sub hl [] rfl)
    · replace hf := q_ifF cc_17 hf
      clear cc_17
      refine lv_iload_n hx hb dX5_write_20 rfl (lv_at hl 0 rfl) ?_
      refine lv_aload_n hx hb dX5_write_21 rfl (lv_at hl 1 rfl) ?_
      refine q_getR E hH (ci := 5) rfl 10 (by decide) kF_X5_43 (fun _ _ _ => rfl) hk_6 dX5_write_22 ?_
      obtain ⟨a_9, he_10, hf⟩ := q_biE hf
      rw [he_10]
      obtain ⟨hk_11, hf⟩ := q_gdE hf
      have hk_11 := q_keq hk_11
      refine q_alen2 E hH hk_11 dX5_write_25 ?_
      refine lv_icmp_ge (tgt := 51) hx hb dX5_write_26 (by decide) (fun cc_16 => ?_) (fun cc_16 => ?_)
      · replace hf := q_ifT cc_16 hf
        clear cc_16
        exact bX5_write_51 E hR hcc h Z M _ _ _ _ hf hH (lv_sub hl [] rfl)
      · replace hf := q_ifF cc_16 hf
        clear cc_16
        refine lv_aload_n hx hb dX5_write_29 rfl (lv_at hl 1 rfl) ?_
        refine q_getR E hH (ci := 5) rfl 10 (by decide) kF_X5_43 (fun _ _ _ => rfl) hk_6 dX5_write_30 ?_
        refine lv_iload_n hx hb dX5_write_33 rfl (lv_at hl 0 rfl) ?_
        refine lv_aload_n hx hb dX5_write_34 rfl (lv_at hl 2 rfl) ?_
        refine q_getJN E hH (ci := 0) rfl 0 (by decide) kF_X5_65 (fun _ _ _ => rfl) hk_3 dX5_write_35 ?_
        refine lv_bipush (v := 32) hx hb dX5_write_38 (by decide) ?_
        refine lv_lshl hx hb dX5_write_40 rfl ?_
        refine lv_aload_n hx hb dX5_write_41 rfl (lv_at hl 2 rfl) ?_
        refine q_getJN E hH (ci := 0) rfl 1 (by decide) kF_X5_68 (fun _ _ _ => rfl) hk_3 dX5_write_42 ?_
        refine lv_ldc2 hx hb hown (hT.1 _ _ kK_X5_70) dX5_write_45 ?_
        refine lv_land hx hb dX5_write_48 ?_
        refine lv_lor hx hb dX5_write_49 ?_
        obtain ⟨a_12, he_13, hf⟩ := q_biE hf
        rw [he_13]
        obtain ⟨hz_14, hf⟩ := q_gdE hf
        refine q_lastore E hH hz_14 dX5_write_50 hf (fun M_15 H locs hH hf => ?_)
        exact bX5_write_51 E hR hcc h Z M_15 _ _ _ _ hf hH (lv_sub hl [] rfl)
set_option maxRecDepth 100000 in
theorem tX5_write (l : Launch) (D : va_G) (cA : Nat → ClassId) (z0 : Nat) (h : Nat) (v1 : Option Nat) (Z : q_Z) (M : q_C) (M' : q_C) (hf : fX5_write h v1 Z M = some M') : q_Ct l D cA z0 yX5_write cX5_write 3 none 0 0 [.ref h, va_rf v1] Z M none Z M' 0 0 := by
  cases v1 <;>
  (refine q_start (plainFor_of_name (by decide)) (Nat.le_of_ble_eq_true rfl) (fun p e s m below meth c H ls E hH hl => ?_); exact bX5_write_0 E ⟨Nat.le_refl _, Nat.le_refl _⟩ ⟨Nat.le_refl _, Nat.le_refl _⟩ h _ Z M H [] ls M' hf hH hl)
def fX5_isThere_b21 (h : Nat) (s0 : Int32) (Z : q_Z) (M : q_C) : Option (Int32) :=
  q_gd (decide (s0 = 0) || decide (s0 = 1)) <|
  some s0
set_option maxHeartbeats 4000000 in
set_option maxRecDepth 100000 in
theorem bX5_isThere_21 {cells slots : Nat} (E : q_E p s m meth c cX5_isThere 2 RX5 (some .boolean) "isThere" D cA) (hR : 0 ≤ R.frames ∧ 0 ≤ R.locals) (hcc : cells ≤ R.cells ∧ slots ≤ R.slots) (h : Nat) (s0 : Int32) (Z : q_Z) (M : q_C) (H : Heap) (locs : List Loc) (ls : Array Slot) (r : Int32) (hf : fX5_isThere_b21 h s0 Z M = some r) (hH : q_Hh D cA z0 s Z M H locs) (hl : lv_has ls 2 [])  : W p l e R s m args below meth c H locs cells slots (MQ below (q_Q D cA z0 (some (.int r)) Z M) args s cells slots (fun q => z0 ≤ q)) (F0 m 21 ls [.int s0]) := by
  have hx := E.1
  have hb := E.2.1
  have hown := E.2.2.2.1
  have hT := E.2.2.2.2.2.2.2.1
  unfold fX5_isThere_b21 at hf
  obtain ⟨hz_2, hf⟩ := q_gdE hf
  cases hf
  exact q_zret E hH hz_2 dX5_isThere_21
def fX5_isThere_b20 (h : Nat) (Z : q_Z) (M : q_C) : Option (Int32) :=
  fX5_isThere_b21 h (0 : Int32) Z M
set_option maxHeartbeats 4000000 in
set_option maxRecDepth 100000 in
theorem bX5_isThere_20 {cells slots : Nat} (E : q_E p s m meth c cX5_isThere 2 RX5 (some .boolean) "isThere" D cA) (hR : 0 ≤ R.frames ∧ 0 ≤ R.locals) (hcc : cells ≤ R.cells ∧ slots ≤ R.slots) (h : Nat) (Z : q_Z) (M : q_C) (H : Heap) (locs : List Loc) (ls : Array Slot) (r : Int32) (hf : fX5_isThere_b20 h Z M = some r) (hH : q_Hh D cA z0 s Z M H locs) (hl : lv_has ls 2 [])  : W p l e R s m args below meth c H locs cells slots (MQ below (q_Q D cA z0 (some (.int r)) Z M) args s cells slots (fun q => z0 ≤ q)) (F0 m 20 ls []) := by
  have hx := E.1
  have hb := E.2.1
  have hown := E.2.2.2.1
  have hT := E.2.2.2.2.2.2.2.1
  unfold fX5_isThere_b20 at hf
  refine lv_iconst (v := 0) hx hb dX5_isThere_20 (by decide) ?_
  exact bX5_isThere_21 E hR hcc h (0 : Int32) Z M _ _ _ _ hf hH (lv_sub hl [] rfl)
def fX5_isThere (h : Nat) (v1 : Int32) (Z : q_Z) (M : q_C) : Option (Int32) :=
  q_gd (zK Z h == 15) <|
  if v1 < gI M h 8 then
    fX5_isThere_b20 h Z M
  else
    if gI M h 9 < v1 then
      fX5_isThere_b20 h Z M
    else
      fX5_isThere_b21 h (1 : Int32) Z M
set_option maxHeartbeats 4000000 in
set_option maxRecDepth 100000 in
theorem bX5_isThere_0 {cells slots : Nat} (E : q_E p s m meth c cX5_isThere 2 RX5 (some .boolean) "isThere" D cA) (hR : 0 ≤ R.frames ∧ 0 ≤ R.locals) (hcc : cells ≤ R.cells ∧ slots ≤ R.slots) (h : Nat) (v1 : Int32) (Z : q_Z) (M : q_C) (H : Heap) (locs : List Loc) (ls : Array Slot) (r : Int32) (hf : fX5_isThere h v1 Z M = some r) (hH : q_Hh D cA z0 s Z M H locs) (hl : lv_has ls 2 [(0, .ref h), (1, .int v1)])  : W p l e R s m args below meth c H locs cells slots (MQ below (q_Q D cA z0 (some (.int r)) Z M) args s cells slots (fun q => z0 ≤ q)) (F0 m 0 ls []) := by
  have hx := E.1
  have hb := E.2.1
  have hown := E.2.2.2.1
  have hT := E.2.2.2.2.2.2.2.1
  unfold fX5_isThere at hf
  refine lv_iload_n hx hb dX5_isThere_0 rfl (lv_at hl 1 rfl) ?_
  refine lv_aload_n hx hb dX5_isThere_1 rfl (lv_at hl 0 rfl) ?_
  obtain ⟨hk_1, hf⟩ := q_gdE hf
  have hk_1 := q_keq hk_1
  refine q_getI E hH (ci := 5) rfl 8 (by decide) kF_X5_37 (fun _ _ _ => rfl) hk_1 dX5_isThere_2 ?_
  refine lv_icmp_lt (tgt := 20) hx hb dX5_isThere_5 (by decide) (fun cc_4 => ?_) (fun cc_4 => ?_)
  · replace hf := q_ifT cc_4 hf
    clear cc_4
    exact bX5_isThere_20 E hR hcc h Z M _ _ _ _ hf hH (lv_sub hl [] rfl)
  · replace hf := q_ifF cc_4 hf
    clear cc_4
    refine lv_iload_n hx hb dX5_isThere_8 rfl (lv_at hl 1 rfl) ?_
    refine lv_aload_n hx hb dX5_isThere_9 rfl (lv_at hl 0 rfl) ?_
    refine q_getI E hH (ci := 5) rfl 9 (by decide) kF_X5_40 (fun _ _ _ => rfl) hk_1 dX5_isThere_10 ?_
    refine lv_icmp_gt (tgt := 20) hx hb dX5_isThere_13 (by decide) (fun cc_3 => ?_) (fun cc_3 => ?_)
    · replace hf := q_ifT cc_3 hf
      clear cc_3
      exact bX5_isThere_20 E hR hcc h Z M _ _ _ _ hf hH (lv_sub hl [] rfl)
    · replace hf := q_ifF cc_3 hf
      clear cc_3
      refine lv_iconst (v := 1) hx hb dX5_isThere_16 (by decide) ?_
      refine lv_goto (tgt := 21) hx hb dX5_isThere_17 (by decide) ?_
      exact bX5_isThere_21 E hR hcc h (1 : Int32) Z M _ _ _ _ hf hH (lv_sub hl [] rfl)
set_option maxRecDepth 100000 in
theorem tX5_isThere (l : Launch) (D : va_G) (cA : Nat → ClassId) (z0 : Nat) (h : Nat) (v1 : Int32) (Z : q_Z) (M : q_C) (r : Int32) (hf : fX5_isThere h v1 Z M = some r) : q_Ct l D cA z0 yX5_isThere cX5_isThere 2 (some .boolean) 0 0 [.ref h, .int v1] Z M (some (.int r)) Z M 0 0 := by
  (refine q_start (plainFor_of_name (by decide)) (Nat.le_of_ble_eq_true rfl) (fun p e s m below meth c H ls E hH hl => ?_); exact bX5_isThere_0 E ⟨Nat.le_refl _, Nat.le_refl _⟩ ⟨Nat.le_refl _, Nat.le_refl _⟩ h _ Z M H [] ls r hf hH hl)
def fX5_read_b36 (h : Nat) (s0 : Int64) (Z : q_Z) (M : q_C) : Option (Int64) :=
  some s0
set_option maxHeartbeats 4000000 in
set_option maxRecDepth 100000 in
theorem bX5_read_36 {cells slots : Nat} (E : q_E p s m meth c cX5_read 3 RX5 (some .long) "read" D cA) (hR : 0 ≤ R.frames ∧ 0 ≤ R.locals) (hcc : cells ≤ R.cells ∧ slots ≤ R.slots) (h : Nat) (s0 : Int64) (Z : q_Z) (M : q_C) (H : Heap) (locs : List Loc) (ls : Array Slot) (r : Int64) (hf : fX5_read_b36 h s0 Z M = some r) (hH : q_Hh D cA z0 s Z M H locs) (hl : lv_has ls 3 [])  : W p l e R s m args below meth c H locs cells slots (MQ below (q_Q D cA z0 (some (.long r)) Z M) args s cells slots (fun q => z0 ≤ q)) (F0 m 36 ls [.long s0]) := by
  have hx := E.1
  have hb := E.2.1
  have hown := E.2.2.2.1
  have hT := E.2.2.2.2.2.2.2.1
  unfold fX5_read_b36 at hf
  cases hf
  exact q_lret E hH dX5_read_36
def fX5_read_b35 (h : Nat) (Z : q_Z) (M : q_C) : Option (Int64) :=
  fX5_read_b36 h (0 : Int64) Z M
set_option maxHeartbeats 4000000 in
set_option maxRecDepth 100000 in
theorem bX5_read_35 {cells slots : Nat} (E : q_E p s m meth c cX5_read 3 RX5 (some .long) "read" D cA) (hR : 0 ≤ R.frames ∧ 0 ≤ R.locals) (hcc : cells ≤ R.cells ∧ slots ≤ R.slots) (h : Nat) (Z : q_Z) (M : q_C) (H : Heap) (locs : List Loc) (ls : Array Slot) (r : Int64) (hf : fX5_read_b35 h Z M = some r) (hH : q_Hh D cA z0 s Z M H locs) (hl : lv_has ls 3 [])  : W p l e R s m args below meth c H locs cells slots (MQ below (q_Q D cA z0 (some (.long r)) Z M) args s cells slots (fun q => z0 ≤ q)) (F0 m 35 ls []) := by
  have hx := E.1
  have hb := E.2.1
  have hown := E.2.2.2.1
  have hT := E.2.2.2.2.2.2.2.1
  unfold fX5_read_b35 at hf
  refine lv_lconst (v := 0) hx hb dX5_read_35 (by decide) ?_
  exact bX5_read_36 E hR hcc h (0 : Int64) Z M _ _ _ _ hf hH (lv_sub hl [] rfl)
def fX5_read (h : Nat) (v1 : Int32) (Z : q_Z) (M : q_C) : Option (Int64) :=
  q_nm (v1 - (-300 : Int32)) fun v2_1 =>
  q_gd (zK Z h == 15) <|
  q_on (gR M h 10) (
    fX5_read_b35 h Z M
  ) fun a_5 =>
    if v2_1 < 0 then
      fX5_read_b35 h Z M
    else
      Option.bind (gR M h 10) fun a_6 =>
      q_gd (zK Z a_6 == 2) <|
      if nI (zL Z a_6) ≤ v2_1 then
        fX5_read_b35 h Z M
      else
        Option.bind (gR M h 10) fun a_9 =>
        q_gd (q_ok Z a_9 2 v2_1) <|
        fX5_read_b36 h (gJ M a_9 v2_1.toNatClampNeg) Z M
set_option maxHeartbeats 4000000 in
set_option maxRecDepth 100000 in
theorem bX5_read_0 {cells slots : Nat} (E : q_E p s m meth c cX5_read 3 RX5 (some .long) "read" D cA) (hR : 0 ≤ R.frames ∧ 0 ≤ R.locals) (hcc : cells ≤ R.cells ∧ slots ≤ R.slots) (h : Nat) (v1 : Int32) (Z : q_Z) (M : q_C) (H : Heap) (locs : List Loc) (ls : Array Slot) (r : Int64) (hf : fX5_read h v1 Z M = some r) (hH : q_Hh D cA z0 s Z M H locs) (hl : lv_has ls 3 [(0, .ref h), (1, .int v1)])  : W p l e R s m args below meth c H locs cells slots (MQ below (q_Q D cA z0 (some (.long r)) Z M) args s cells slots (fun q => z0 ≤ q)) (F0 m 0 ls []) := by
  have hx := E.1
  have hb := E.2.1
  have hown := E.2.2.2.1
  have hT := E.2.2.2.2.2.2.2.1
  unfold fX5_read at hf
  refine lv_iload_n hx hb dX5_read_0 rfl (lv_at hl 1 rfl) ?_
  refine lv_sipush (v := -300) hx hb dX5_read_1 (by decide) ?_
  refine lv_isub hx hb dX5_read_4 ?_
  refine lv_topi (fun v2_1 hn_2 => ?_)
  replace hf := q_nmE hn_2 hf
  clear hn_2
  refine lv_istore_n (lv' := [(2, .int v2_1), (0, .ref h), (1, .int v1)]) hx hb dX5_read_5 rfl hl (by decide) rfl (fun ls hl => ?_)
  refine lv_aload_n hx hb dX5_read_6 rfl (lv_at hl 1 rfl) ?_
  obtain ⟨hk_3, hf⟩ := q_gdE hf
  have hk_3 := q_keq hk_3
  refine q_getR E hH (ci := 5) rfl 10 (by decide) kF_X5_43 (fun _ _ _ => rfl) hk_3 dX5_read_7 ?_
  refine q_ifnull (tgt := 35) hx hb dX5_read_10 (by decide) hf (fun cc_4 hf => ?_) (fun a_5 cc_4 hf => ?_)
  · clear cc_4
    exact bX5_read_35 E hR hcc h Z M _ _ _ _ hf hH (lv_sub hl [] rfl)
  · clear cc_4
    refine lv_iload_n hx hb dX5_read_13 rfl (lv_at hl 0 rfl) ?_
    refine lv_if_lt (tgt := 35) hx hb dX5_read_14 (by decide) (fun cc_13 => ?_) (fun cc_13 => ?_)
    · replace hf := q_ifT cc_13 hf
      clear cc_13
      exact bX5_read_35 E hR hcc h Z M _ _ _ _ hf hH (lv_sub hl [] rfl)
    · replace hf := q_ifF cc_13 hf
      clear cc_13
      refine lv_iload_n hx hb dX5_read_17 rfl (lv_at hl 0 rfl) ?_
      refine lv_aload_n hx hb dX5_read_18 rfl (lv_at hl 1 rfl) ?_
      refine q_getR E hH (ci := 5) rfl 10 (by decide) kF_X5_43 (fun _ _ _ => rfl) hk_3 dX5_read_19 ?_
      obtain ⟨a_6, he_7, hf⟩ := q_biE hf
      rw [he_7]
      obtain ⟨hk_8, hf⟩ := q_gdE hf
      have hk_8 := q_keq hk_8
      refine q_alen2 E hH hk_8 dX5_read_22 ?_
      refine lv_icmp_ge (tgt := 35) hx hb dX5_read_23 (by decide) (fun cc_12 => ?_) (fun cc_12 => ?_)
      · replace hf := q_ifT cc_12 hf
        clear cc_12
        exact bX5_read_35 E hR hcc h Z M _ _ _ _ hf hH (lv_sub hl [] rfl)
      · replace hf := q_ifF cc_12 hf
        clear cc_12
        refine lv_aload_n hx hb dX5_read_26 rfl (lv_at hl 1 rfl) ?_
        refine q_getR E hH (ci := 5) rfl 10 (by decide) kF_X5_43 (fun _ _ _ => rfl) hk_3 dX5_read_27 ?_
        refine lv_iload_n hx hb dX5_read_30 rfl (lv_at hl 0 rfl) ?_
        obtain ⟨a_9, he_10, hf⟩ := q_biE hf
        rw [he_10]
        obtain ⟨hz_11, hf⟩ := q_gdE hf
        refine q_laload E hH hz_11 dX5_read_31 ?_
        refine lv_goto (tgt := 36) hx hb dX5_read_32 (by decide) ?_
        exact bX5_read_36 E hR hcc h (gJ M a_9 v2_1.toNatClampNeg) Z M _ _ _ _ hf hH (lv_sub hl [] rfl)
set_option maxRecDepth 100000 in
theorem tX5_read (l : Launch) (D : va_G) (cA : Nat → ClassId) (z0 : Nat) (h : Nat) (v1 : Int32) (Z : q_Z) (M : q_C) (r : Int64) (hf : fX5_read h v1 Z M = some r) : q_Ct l D cA z0 yX5_read cX5_read 3 (some .long) 0 0 [.ref h, .int v1] Z M (some (.long r)) Z M 0 0 := by
  (refine q_start (plainFor_of_name (by decide)) (Nat.le_of_ble_eq_true rfl) (fun p e s m below meth c H ls E hH hl => ?_); exact bX5_read_0 E ⟨Nat.le_refl _, Nat.le_refl _⟩ ⟨Nat.le_refl _, Nat.le_refl _⟩ h _ Z M H [] ls r hf hH hl)
def fX5_xAt (h : Nat) (v1 : Int32) (Z : q_Z) (M : q_C) : Option (Int32) :=
  q_gd (zK Z h == 15) <|
  Option.bind (fX5_read h v1 Z M) fun r_2 =>
  some ((r_2 >>> ((32 : Int32).toInt64 &&& 63)).toInt32)
set_option maxHeartbeats 4000000 in
set_option maxRecDepth 100000 in
theorem bX5_xAt_0 {cells slots : Nat} (E : q_E p s m meth c cX5_xAt 2 RX5 (some .int) "xAt" D cA) (hR : 1 ≤ R.frames ∧ 22 ≤ R.locals) (hcc : cells ≤ R.cells ∧ slots ≤ R.slots) (h : Nat) (v1 : Int32) (Z : q_Z) (M : q_C) (H : Heap) (locs : List Loc) (ls : Array Slot) (r : Int32) (hf : fX5_xAt h v1 Z M = some r) (hH : q_Hh D cA z0 s Z M H locs) (hl : lv_has ls 2 [(0, .ref h), (1, .int v1)])  : W p l e R s m args below meth c H locs cells slots (MQ below (q_Q D cA z0 (some (.int r)) Z M) args s cells slots (fun q => z0 ≤ q)) (F0 m 0 ls []) := by
  have hx := E.1
  have hb := E.2.1
  have hown := E.2.2.2.1
  have hT := E.2.2.2.2.2.2.2.1
  unfold fX5_xAt at hf
  refine lv_aload_n hx hb dX5_xAt_0 rfl (lv_at hl 0 rfl) ?_
  refine lv_iload_n hx hb dX5_xAt_1 rfl (lv_at hl 1 rfl) ?_
  obtain ⟨hk_1, hf⟩ := q_gdE hf
  have hk_1 := q_keq hk_1
  obtain ⟨r_2, hw_3, hf⟩ := q_biE hf
  refine q_cV (As := [.int v1]) (rest := []) (st1 := [.long r_2]) E hH (tX5_read l D cA z0 h v1 Z M r_2 hw_3) mw_X5_read mi_X5_read (ci := 5) rfl ms_X5_read kM_X5_72 hk_1 hcc rfl rfl rfl hl.1 rfl rfl (Nat.le_of_ble_eq_true rfl) ⟨Nat.le_trans (by decide) hR.1, Nat.le_trans (by decide) hR.2⟩ dX5_xAt_2 (fun H locs hH => ?_)
  refine lv_bipush (v := 32) hx hb dX5_xAt_5 (by decide) ?_
  refine lv_lshr hx hb dX5_xAt_7 rfl ?_
  refine lv_l2i hx hb dX5_xAt_8 rfl ?_
  cases hf
  exact q_iret E hH dX5_xAt_9
set_option maxRecDepth 100000 in
theorem tX5_xAt (l : Launch) (D : va_G) (cA : Nat → ClassId) (z0 : Nat) (h : Nat) (v1 : Int32) (Z : q_Z) (M : q_C) (r : Int32) (hf : fX5_xAt h v1 Z M = some r) : q_Ct l D cA z0 yX5_xAt cX5_xAt 2 (some .int) 1 22 [.ref h, .int v1] Z M (some (.int r)) Z M 0 0 := by
  (refine q_start (plainFor_of_name (by decide)) (Nat.le_of_ble_eq_true rfl) (fun p e s m below meth c H ls E hH hl => ?_); exact bX5_xAt_0 E ⟨Nat.le_refl _, Nat.le_refl _⟩ ⟨Nat.le_refl _, Nat.le_refl _⟩ h _ Z M H [] ls r hf hH hl)
def fX5_yAt (h : Nat) (v1 : Int32) (Z : q_Z) (M : q_C) : Option (Int32) :=
  q_gd (zK Z h == 15) <|
  Option.bind (fX5_read h v1 Z M) fun r_2 =>
  some r_2.toInt32
set_option maxHeartbeats 4000000 in
set_option maxRecDepth 100000 in
theorem bX5_yAt_0 {cells slots : Nat} (E : q_E p s m meth c cX5_yAt 2 RX5 (some .int) "yAt" D cA) (hR : 1 ≤ R.frames ∧ 22 ≤ R.locals) (hcc : cells ≤ R.cells ∧ slots ≤ R.slots) (h : Nat) (v1 : Int32) (Z : q_Z) (M : q_C) (H : Heap) (locs : List Loc) (ls : Array Slot) (r : Int32) (hf : fX5_yAt h v1 Z M = some r) (hH : q_Hh D cA z0 s Z M H locs) (hl : lv_has ls 2 [(0, .ref h), (1, .int v1)])  : W p l e R s m args below meth c H locs cells slots (MQ below (q_Q D cA z0 (some (.int r)) Z M) args s cells slots (fun q => z0 ≤ q)) (F0 m 0 ls []) := by
  have hx := E.1
  have hb := E.2.1
  have hown := E.2.2.2.1
  have hT := E.2.2.2.2.2.2.2.1
  unfold fX5_yAt at hf
  refine lv_aload_n hx hb dX5_yAt_0 rfl (lv_at hl 0 rfl) ?_
  refine lv_iload_n hx hb dX5_yAt_1 rfl (lv_at hl 1 rfl) ?_
  obtain ⟨hk_1, hf⟩ := q_gdE hf
  have hk_1 := q_keq hk_1
  obtain ⟨r_2, hw_3, hf⟩ := q_biE hf
  refine q_cV (As := [.int v1]) (rest := []) (st1 := [.long r_2]) E hH (tX5_read l D cA z0 h v1 Z M r_2 hw_3) mw_X5_read mi_X5_read (ci := 5) rfl ms_X5_read kM_X5_72 hk_1 hcc rfl rfl rfl hl.1 rfl rfl (Nat.le_of_ble_eq_true rfl) ⟨Nat.le_trans (by decide) hR.1, Nat.le_trans (by decide) hR.2⟩ dX5_yAt_2 (fun H locs hH => ?_)
  refine lv_l2i hx hb dX5_yAt_5 rfl ?_
  cases hf
  exact q_iret E hH dX5_yAt_6
set_option maxRecDepth 100000 in
theorem tX5_yAt (l : Launch) (D : va_G) (cA : Nat → ClassId) (z0 : Nat) (h : Nat) (v1 : Int32) (Z : q_Z) (M : q_C) (r : Int32) (hf : fX5_yAt h v1 Z M = some r) : q_Ct l D cA z0 yX5_yAt cX5_yAt 2 (some .int) 1 22 [.ref h, .int v1] Z M (some (.int r)) Z M 0 0 := by
  (refine q_start (plainFor_of_name (by decide)) (Nat.le_of_ble_eq_true rfl) (fun p e s m below meth c H ls E hH hl => ?_); exact bX5_yAt_0 E ⟨Nat.le_refl _, Nat.le_refl _⟩ ⟨Nat.le_refl _, Nat.le_refl _⟩ h _ Z M H [] ls r hf hH hl)
def fX1_take_b57 (h : Nat) (Z : q_Z) (M : q_C) : Option (q_C) :=
  some M
set_option maxHeartbeats 4000000 in
set_option maxRecDepth 100000 in
theorem bX1_take_57 {cells slots : Nat} (E : q_E p s m meth c cX1_take 6 RX1 none "take" D cA) (hR : 0 ≤ R.frames ∧ 0 ≤ R.locals) (hcc : cells ≤ R.cells ∧ slots ≤ R.slots) (h : Nat) (Z : q_Z) (M : q_C) (H : Heap) (locs : List Loc) (ls : Array Slot) (M' : q_C) (hf : fX1_take_b57 h Z M = some M') (hH : q_Hh D cA z0 s Z M H locs) (hl : lv_has ls 6 [])  : W p l e R s m args below meth c H locs cells slots (MQ below (q_Q D cA z0 none Z M') args s cells slots (fun q => z0 ≤ q)) (F0 m 57 ls []) := by
  have hx := E.1
  have hb := E.2.1
  have hown := E.2.2.2.1
  have hT := E.2.2.2.2.2.2.2.1
  unfold fX1_take_b57 at hf
  cases hf
  exact q_vret E hH dX1_take_57
def fX1_take (h : Nat) (v1 : Int32) (v2 : Int64) (v4 : Int64) (Z : q_Z) (M : q_C) : Option (q_C) :=
  q_gd (zK Z h == 11) <|
  if gI M h 3 < 0 then
    fX1_take_b57 h Z M
  else
    if (100 : Int32) ≤ gI M h 3 then
      fX1_take_b57 h Z M
    else
      Option.bind (gR M h 0) fun a_2 =>
      q_gd (q_ok Z a_2 1 (gI M h 3)) <|
      q_nm (sI M a_2 (gI M h 3).toNatClampNeg v1) fun M_5 =>
      Option.bind (gR M_5 h 1) fun a_6 =>
      q_gd (q_ok Z a_6 2 (gI M_5 h 3)) <|
      q_nm (sJ M_5 a_6 (gI M_5 h 3).toNatClampNeg v2) fun M_9 =>
      Option.bind (gR M_9 h 2) fun a_10 =>
      q_gd (q_ok Z a_10 2 (gI M_9 h 3)) <|
      q_nm (sJ M_9 a_10 (gI M_9 h 3).toNatClampNeg v4) fun M_13 =>
      q_nm (sI M_13 h 3 ((gI M_13 h 3) + (1 : Int32))) fun M_14 =>
      fX1_take_b57 h Z M_14
set_option maxHeartbeats 4000000 in
set_option maxRecDepth 100000 in
theorem bX1_take_0 {cells slots : Nat} (E : q_E p s m meth c cX1_take 6 RX1 none "take" D cA) (hR : 0 ≤ R.frames ∧ 0 ≤ R.locals) (hcc : cells ≤ R.cells ∧ slots ≤ R.slots) (h : Nat) (v1 : Int32) (v2 : Int64) (v4 : Int64) (Z : q_Z) (M : q_C) (H : Heap) (locs : List Loc) (ls : Array Slot) (M' : q_C) (hf : fX1_take h v1 v2 v4 Z M = some M') (hH : q_Hh D cA z0 s Z M H locs) (hl : lv_has ls 6 [(0, .ref h), (1, .int v1), (2, .long v2), (4, .long v4)])  : W p l e R s m args below meth c H locs cells slots (MQ below (q_Q D cA z0 none Z M') args s cells slots (fun q => z0 ≤ q)) (F0 m 0 ls []) := by
  have hx := E.1
  have hb := E.2.1
  have hown := E.2.2.2.1
  have hT := E.2.2.2.2.2.2.2.1
  unfold fX1_take at hf
  refine lv_aload_n hx hb dX1_take_0 rfl (lv_at hl 0 rfl) ?_
  obtain ⟨hk_1, hf⟩ := q_gdE hf
  have hk_1 := q_keq hk_1
  refine q_getI E hH (ci := 1) rfl 3 (by decide) kF_X1_22 (fun _ _ _ => rfl) hk_1 dX1_take_1 ?_
  refine lv_if_lt (tgt := 57) hx hb dX1_take_4 (by decide) (fun cc_16 => ?_) (fun cc_16 => ?_)
  · replace hf := q_ifT cc_16 hf
    clear cc_16
    exact bX1_take_57 E hR hcc h Z M _ _ _ _ hf hH (lv_sub hl [] rfl)
  · replace hf := q_ifF cc_16 hf
    clear cc_16
    refine lv_aload_n hx hb dX1_take_7 rfl (lv_at hl 0 rfl) ?_
    refine q_getI E hH (ci := 1) rfl 3 (by decide) kF_X1_22 (fun _ _ _ => rfl) hk_1 dX1_take_8 ?_
    refine lv_bipush (v := 100) hx hb dX1_take_11 (by decide) ?_
    refine lv_icmp_ge (tgt := 57) hx hb dX1_take_13 (by decide) (fun cc_15 => ?_) (fun cc_15 => ?_)
    · replace hf := q_ifT cc_15 hf
      clear cc_15
      exact bX1_take_57 E hR hcc h Z M _ _ _ _ hf hH (lv_sub hl [] rfl)
    · replace hf := q_ifF cc_15 hf
      clear cc_15
      refine lv_aload_n hx hb dX1_take_16 rfl (lv_at hl 0 rfl) ?_
      refine q_getR E hH (ci := 1) rfl 0 (by decide) kF_X1_9 (fun _ _ _ => rfl) hk_1 dX1_take_17 ?_
      obtain ⟨a_2, he_3, hf⟩ := q_biE hf
      rw [he_3]
      refine lv_aload_n hx hb dX1_take_20 rfl (lv_at hl 0 rfl) ?_
      refine q_getI E hH (ci := 1) rfl 3 (by decide) kF_X1_22 (fun _ _ _ => rfl) hk_1 dX1_take_21 ?_
      refine lv_iload_n hx hb dX1_take_24 rfl (lv_at hl 1 rfl) ?_
      obtain ⟨hz_4, hf⟩ := q_gdE hf
      refine q_iastore E hH hz_4 dX1_take_25 hf (fun M_5 H locs hH hf => ?_)
      refine lv_aload_n hx hb dX1_take_26 rfl (lv_at hl 0 rfl) ?_
      refine q_getR E hH (ci := 1) rfl 1 (by decide) kF_X1_15 (fun _ _ _ => rfl) hk_1 dX1_take_27 ?_
      obtain ⟨a_6, he_7, hf⟩ := q_biE hf
      rw [he_7]
      refine lv_aload_n hx hb dX1_take_30 rfl (lv_at hl 0 rfl) ?_
      refine q_getI E hH (ci := 1) rfl 3 (by decide) kF_X1_22 (fun _ _ _ => rfl) hk_1 dX1_take_31 ?_
      refine lv_lload_n hx hb dX1_take_34 rfl (lv_at hl 2 rfl) ?_
      obtain ⟨hz_8, hf⟩ := q_gdE hf
      refine q_lastore E hH hz_8 dX1_take_35 hf (fun M_9 H locs hH hf => ?_)
      refine lv_aload_n hx hb dX1_take_36 rfl (lv_at hl 0 rfl) ?_
      refine q_getR E hH (ci := 1) rfl 2 (by decide) kF_X1_19 (fun _ _ _ => rfl) hk_1 dX1_take_37 ?_
      obtain ⟨a_10, he_11, hf⟩ := q_biE hf
      rw [he_11]
      refine lv_aload_n hx hb dX1_take_40 rfl (lv_at hl 0 rfl) ?_
      refine q_getI E hH (ci := 1) rfl 3 (by decide) kF_X1_22 (fun _ _ _ => rfl) hk_1 dX1_take_41 ?_
      refine lv_lload hx hb dX1_take_44 (lv_at hl 3 rfl) ?_
      obtain ⟨hz_12, hf⟩ := q_gdE hf
      refine q_lastore E hH hz_12 dX1_take_46 hf (fun M_13 H locs hH hf => ?_)
      refine lv_aload_n hx hb dX1_take_47 rfl (lv_at hl 0 rfl) ?_
      refine lv_dup hx hb dX1_take_48 rfl ?_
      refine q_getI E hH (ci := 1) rfl 3 (by decide) kF_X1_22 (fun _ _ _ => rfl) hk_1 dX1_take_49 ?_
      refine lv_iconst (v := 1) hx hb dX1_take_52 (by decide) ?_
      refine lv_iadd hx hb dX1_take_53 ?_
      refine q_putI E hH (ci := 1) rfl 3 (by decide) kF_X1_22 rfl (fun _ _ _ => rfl) (x := (gI M_13 h 3) + (1 : Int32)) hk_1 rfl rfl dX1_take_54 hf (fun M_14 H locs hH hf => ?_)
      exact bX1_take_57 E hR hcc h Z M_14 _ _ _ _ hf hH (lv_sub hl [] rfl)
set_option maxRecDepth 100000 in
theorem tX1_take (l : Launch) (D : va_G) (cA : Nat → ClassId) (z0 : Nat) (h : Nat) (v1 : Int32) (v2 : Int64) (v4 : Int64) (Z : q_Z) (M : q_C) (M' : q_C) (hf : fX1_take h v1 v2 v4 Z M = some M') : q_Ct l D cA z0 yX1_take cX1_take 6 none 0 0 [.ref h, .int v1, .long v2, .long v4] Z M none Z M' 0 0 := by
  (refine q_start (plainFor_of_name (by decide)) (Nat.le_of_ble_eq_true rfl) (fun p e s m below meth c H ls E hH hl => ?_); exact bX1_take_0 E ⟨Nat.le_refl _, Nat.le_refl _⟩ ⟨Nat.le_refl _, Nat.le_refl _⟩ h _ _ _ Z M H [] ls M' hf hH hl)
def fX1_isHeld_b23 (h : Nat) (s0 : Int32) (Z : q_Z) (M : q_C) : Option (Int32) :=
  q_gd (decide (s0 = 0) || decide (s0 = 1)) <|
  some s0
set_option maxHeartbeats 4000000 in
set_option maxRecDepth 100000 in
theorem bX1_isHeld_23 {cells slots : Nat} (E : q_E p s m meth c cX1_isHeld 2 RX1 (some .boolean) "isHeld" D cA) (hR : 0 ≤ R.frames ∧ 0 ≤ R.locals) (hcc : cells ≤ R.cells ∧ slots ≤ R.slots) (h : Nat) (s0 : Int32) (Z : q_Z) (M : q_C) (H : Heap) (locs : List Loc) (ls : Array Slot) (r : Int32) (hf : fX1_isHeld_b23 h s0 Z M = some r) (hH : q_Hh D cA z0 s Z M H locs) (hl : lv_has ls 2 [])  : W p l e R s m args below meth c H locs cells slots (MQ below (q_Q D cA z0 (some (.int r)) Z M) args s cells slots (fun q => z0 ≤ q)) (F0 m 23 ls [.int s0]) := by
  have hx := E.1
  have hb := E.2.1
  have hown := E.2.2.2.1
  have hT := E.2.2.2.2.2.2.2.1
  unfold fX1_isHeld_b23 at hf
  obtain ⟨hz_1, hf⟩ := q_gdE hf
  cases hf
  exact q_zret E hH hz_1 dX1_isHeld_23
def fX1_isHeld_b22 (h : Nat) (Z : q_Z) (M : q_C) : Option (Int32) :=
  fX1_isHeld_b23 h (0 : Int32) Z M
set_option maxHeartbeats 4000000 in
set_option maxRecDepth 100000 in
theorem bX1_isHeld_22 {cells slots : Nat} (E : q_E p s m meth c cX1_isHeld 2 RX1 (some .boolean) "isHeld" D cA) (hR : 0 ≤ R.frames ∧ 0 ≤ R.locals) (hcc : cells ≤ R.cells ∧ slots ≤ R.slots) (h : Nat) (Z : q_Z) (M : q_C) (H : Heap) (locs : List Loc) (ls : Array Slot) (r : Int32) (hf : fX1_isHeld_b22 h Z M = some r) (hH : q_Hh D cA z0 s Z M H locs) (hl : lv_has ls 2 [])  : W p l e R s m args below meth c H locs cells slots (MQ below (q_Q D cA z0 (some (.int r)) Z M) args s cells slots (fun q => z0 ≤ q)) (F0 m 22 ls []) := by
  have hx := E.1
  have hb := E.2.1
  have hown := E.2.2.2.1
  have hT := E.2.2.2.2.2.2.2.1
  unfold fX1_isHeld_b22 at hf
  refine lv_iconst (v := 0) hx hb dX1_isHeld_22 (by decide) ?_
  exact bX1_isHeld_23 E hR hcc h (0 : Int32) Z M _ _ _ _ hf hH (lv_sub hl [] rfl)
def fX1_isHeld (h : Nat) (v1 : Int32) (Z : q_Z) (M : q_C) : Option (Int32) :=
  if v1 < 0 then
    fX1_isHeld_b22 h Z M
  else
    q_gd (zK Z h == 11) <|
    if gI M h 3 ≤ v1 then
      fX1_isHeld_b22 h Z M
    else
      if (100 : Int32) ≤ v1 then
        fX1_isHeld_b22 h Z M
      else
        fX1_isHeld_b23 h (1 : Int32) Z M
set_option maxHeartbeats 4000000 in
set_option maxRecDepth 100000 in
theorem bX1_isHeld_0 {cells slots : Nat} (E : q_E p s m meth c cX1_isHeld 2 RX1 (some .boolean) "isHeld" D cA) (hR : 0 ≤ R.frames ∧ 0 ≤ R.locals) (hcc : cells ≤ R.cells ∧ slots ≤ R.slots) (h : Nat) (v1 : Int32) (Z : q_Z) (M : q_C) (H : Heap) (locs : List Loc) (ls : Array Slot) (r : Int32) (hf : fX1_isHeld h v1 Z M = some r) (hH : q_Hh D cA z0 s Z M H locs) (hl : lv_has ls 2 [(0, .ref h), (1, .int v1)])  : W p l e R s m args below meth c H locs cells slots (MQ below (q_Q D cA z0 (some (.int r)) Z M) args s cells slots (fun q => z0 ≤ q)) (F0 m 0 ls []) := by
  have hx := E.1
  have hb := E.2.1
  have hown := E.2.2.2.1
  have hT := E.2.2.2.2.2.2.2.1
  unfold fX1_isHeld at hf
  refine lv_iload_n hx hb dX1_isHeld_0 rfl (lv_at hl 1 rfl) ?_
  refine lv_if_lt (tgt := 22) hx hb dX1_isHeld_1 (by decide) (fun cc_5 => ?_) (fun cc_5 => ?_)
  · replace hf := q_ifT cc_5 hf
    clear cc_5
    exact bX1_isHeld_22 E hR hcc h Z M _ _ _ _ hf hH (lv_sub hl [] rfl)
  · replace hf := q_ifF cc_5 hf
    clear cc_5
    refine lv_iload_n hx hb dX1_isHeld_4 rfl (lv_at hl 1 rfl) ?_
    refine lv_aload_n hx hb dX1_isHeld_5 rfl (lv_at hl 0 rfl) ?_
    obtain ⟨hk_2, hf⟩ := q_gdE hf
    have hk_2 := q_keq hk_2
    refine q_getI E hH (ci := 1) rfl 3 (by decide) kF_X1_22 (fun _ _ _ => rfl) hk_2 dX1_isHeld_6 ?_
    refine lv_icmp_ge (tgt := 22) hx hb dX1_isHeld_9 (by decide) (fun cc_4 => ?_) (fun cc_4 => ?_)
    · replace hf := q_ifT cc_4 hf
      clear cc_4
      exact bX1_isHeld_22 E hR hcc h Z M _ _ _ _ hf hH (lv_sub hl [] rfl)
    · replace hf := q_ifF cc_4 hf
      clear cc_4
      refine lv_iload_n hx hb dX1_isHeld_12 rfl (lv_at hl 1 rfl) ?_
      refine lv_bipush (v := 100) hx hb dX1_isHeld_13 (by decide) ?_
      refine lv_icmp_ge (tgt := 22) hx hb dX1_isHeld_15 (by decide) (fun cc_3 => ?_) (fun cc_3 => ?_)
      · replace hf := q_ifT cc_3 hf
        clear cc_3
        exact bX1_isHeld_22 E hR hcc h Z M _ _ _ _ hf hH (lv_sub hl [] rfl)
      · replace hf := q_ifF cc_3 hf
        clear cc_3
        refine lv_iconst (v := 1) hx hb dX1_isHeld_18 (by decide) ?_
        refine lv_goto (tgt := 23) hx hb dX1_isHeld_19 (by decide) ?_
        exact bX1_isHeld_23 E hR hcc h (1 : Int32) Z M _ _ _ _ hf hH (lv_sub hl [] rfl)
set_option maxRecDepth 100000 in
theorem tX1_isHeld (l : Launch) (D : va_G) (cA : Nat → ClassId) (z0 : Nat) (h : Nat) (v1 : Int32) (Z : q_Z) (M : q_C) (r : Int32) (hf : fX1_isHeld h v1 Z M = some r) : q_Ct l D cA z0 yX1_isHeld cX1_isHeld 2 (some .boolean) 0 0 [.ref h, .int v1] Z M (some (.int r)) Z M 0 0 := by
  (refine q_start (plainFor_of_name (by decide)) (Nat.le_of_ble_eq_true rfl) (fun p e s m below meth c H ls E hH hl => ?_); exact bX1_isHeld_0 E ⟨Nat.le_refl _, Nat.le_refl _⟩ ⟨Nat.le_refl _, Nat.le_refl _⟩ h _ Z M H [] ls r hf hH hl)
def fX1_cross_b47 (h : Nat) (s0 : Int64) (Z : q_Z) (M : q_C) : Option (Int64) :=
  some s0
set_option maxHeartbeats 4000000 in
set_option maxRecDepth 100000 in
theorem bX1_cross_47 {cells slots : Nat} (E : q_E p s m meth c cX1_cross 3 RX1 (some .long) "cross" D cA) (hR : 1 ≤ R.frames ∧ 21 ≤ R.locals) (hcc : cells ≤ R.cells ∧ slots ≤ R.slots) (h : Nat) (s0 : Int64) (Z : q_Z) (M : q_C) (H : Heap) (locs : List Loc) (ls : Array Slot) (r : Int64) (hf : fX1_cross_b47 h s0 Z M = some r) (hH : q_Hh D cA z0 s Z M H locs) (hl : lv_has ls 3 [])  : W p l e R s m args below meth c H locs cells slots (MQ below (q_Q D cA z0 (some (.long r)) Z M) args s cells slots (fun q => z0 ≤ q)) (F0 m 47 ls [.long s0]) := by
  have hx := E.1
  have hb := E.2.1
  have hown := E.2.2.2.1
  have hT := E.2.2.2.2.2.2.2.1
  unfold fX1_cross_b47 at hf
  cases hf
  exact q_lret E hH dX1_cross_47
def fX1_cross_b46 (h : Nat) (Z : q_Z) (M : q_C) : Option (Int64) :=
  fX1_cross_b47 h (0 : Int64) Z M
set_option maxHeartbeats 4000000 in
set_option maxRecDepth 100000 in
theorem bX1_cross_46 {cells slots : Nat} (E : q_E p s m meth c cX1_cross 3 RX1 (some .long) "cross" D cA) (hR : 1 ≤ R.frames ∧ 21 ≤ R.locals) (hcc : cells ≤ R.cells ∧ slots ≤ R.slots) (h : Nat) (Z : q_Z) (M : q_C) (H : Heap) (locs : List Loc) (ls : Array Slot) (r : Int64) (hf : fX1_cross_b46 h Z M = some r) (hH : q_Hh D cA z0 s Z M H locs) (hl : lv_has ls 3 [])  : W p l e R s m args below meth c H locs cells slots (MQ below (q_Q D cA z0 (some (.long r)) Z M) args s cells slots (fun q => z0 ≤ q)) (F0 m 46 ls []) := by
  have hx := E.1
  have hb := E.2.1
  have hown := E.2.2.2.1
  have hT := E.2.2.2.2.2.2.2.1
  unfold fX1_cross_b46 at hf
  refine lv_lconst (v := 0) hx hb dX1_cross_46 (by decide) ?_
  exact bX1_cross_47 E hR hcc h (0 : Int64) Z M _ _ _ _ hf hH (lv_sub hl [] rfl)
def fX1_cross (h : Nat) (v1 : Int32) (v2 : Int32) (Z : q_Z) (M : q_C) : Option (Int64) :=
  q_gd (zK Z h == 11) <|
  Option.bind (fX1_isHeld h v1 Z M) fun r_2 =>
  if r_2 = 0 then
    fX1_cross_b46 h Z M
  else
    Option.bind (fX1_isHeld h v2 Z M) fun r_4 =>
    if r_4 = 0 then
      fX1_cross_b46 h Z M
    else
      Option.bind (gR M h 1) fun a_6 =>
      q_gd (q_ok Z a_6 2 v1) <|
      Option.bind (gR M h 2) fun a_9 =>
      q_gd (q_ok Z a_9 2 v2) <|
      Option.bind (gR M h 2) fun a_12 =>
      q_gd (q_ok Z a_12 2 v1) <|
      Option.bind (gR M h 1) fun a_15 =>
      q_gd (q_ok Z a_15 2 v2) <|
      fX1_cross_b47 h (((gJ M a_6 v1.toNatClampNeg) * (gJ M a_9 v2.toNatClampNeg)) - ((gJ M a_12 v1.toNatClampNeg) * (gJ M a_15 v2.toNatClampNeg))) Z M
set_option maxHeartbeats 4000000 in
set_option maxRecDepth 100000 in
theorem bX1_cross_0 {cells slots : Nat} (E : q_E p s m meth c cX1_cross 3 RX1 (some .long) "cross" D cA) (hR : 1 ≤ R.frames ∧ 21 ≤ R.locals) (hcc : cells ≤ R.cells ∧ slots ≤ R.slots) (h : Nat) (v1 : Int32) (v2 : Int32) (Z : q_Z) (M : q_C) (H : Heap) (locs : List Loc) (ls : Array Slot) (r : Int64) (hf : fX1_cross h v1 v2 Z M = some r) (hH : q_Hh D cA z0 s Z M H locs) (hl : lv_has ls 3 [(0, .ref h), (1, .int v1), (2, .int v2)])  : W p l e R s m args below meth c H locs cells slots (MQ below (q_Q D cA z0 (some (.long r)) Z M) args s cells slots (fun q => z0 ≤ q)) (F0 m 0 ls []) := by
  have hx := E.1
  have hb := E.2.1
  have hown := E.2.2.2.1
  have hT := E.2.2.2.2.2.2.2.1
  unfold fX1_cross at hf
  refine lv_aload_n hx hb dX1_cross_0 rfl (lv_at hl 0 rfl) ?_
  refine lv_iload_n hx hb dX1_cross_1 rfl (lv_at hl 1 rfl) ?_
  obtain ⟨hk_1, hf⟩ := q_gdE hf
  have hk_1 := q_keq hk_1
  obtain ⟨r_2, hw_3, hf⟩ := q_biE hf
  refine q_cV (As := [.int v1]) (rest := []) (st1 := [.int r_2]) E hH (tX1_isHeld l D cA z0 h v1 Z M r_2 hw_3) mw_X1_isHeld mi_X1_isHeld (ci := 1) rfl ms_X1_isHeld kM_X1_26 hk_1 hcc rfl rfl rfl hl.1 rfl rfl (Nat.le_of_ble_eq_true rfl) ⟨Nat.le_trans (by decide) hR.1, Nat.le_trans (by decide) hR.2⟩ dX1_cross_2 (fun H locs hH => ?_)
  refine lv_if_eq (tgt := 46) hx hb dX1_cross_5 (by decide) (fun cc_19 => ?_) (fun cc_19 => ?_)
  · replace hf := q_ifT cc_19 hf
    clear cc_19
    exact bX1_cross_46 E hR hcc h Z M _ _ _ _ hf hH (lv_sub hl [] rfl)
  · replace hf := q_ifF cc_19 hf
    clear cc_19
    refine lv_aload_n hx hb dX1_cross_8 rfl (lv_at hl 0 rfl) ?_
    refine lv_iload_n hx hb dX1_cross_9 rfl (lv_at hl 2 rfl) ?_
    obtain ⟨r_4, hw_5, hf⟩ := q_biE hf
    refine q_cV (As := [.int v2]) (rest := []) (st1 := [.int r_4]) E hH (tX1_isHeld l D cA z0 h v2 Z M r_4 hw_5) mw_X1_isHeld mi_X1_isHeld (ci := 1) rfl ms_X1_isHeld kM_X1_26 hk_1 hcc rfl rfl rfl hl.1 rfl rfl (Nat.le_of_ble_eq_true rfl) ⟨Nat.le_trans (by decide) hR.1, Nat.le_trans (by decide) hR.2⟩ dX1_cross_10 (fun H locs hH => ?_)
    refine lv_if_eq (tgt := 46) hx hb dX1_cross_13 (by decide) (fun cc_18 => ?_) (fun cc_18 => ?_)
    · replace hf := q_ifT cc_18 hf
      clear cc_18
      exact bX1_cross_46 E hR hcc h Z M _ _ _ _ hf hH (lv_sub hl [] rfl)
    · replace hf := q_ifF cc_18 hf
      clear cc_18
      refine lv_aload_n hx hb dX1_cross_16 rfl (lv_at hl 0 rfl) ?_
      refine q_getR E hH (ci := 1) rfl 1 (by decide) kF_X1_15 (fun _ _ _ => rfl) hk_1 dX1_cross_17 ?_
      obtain ⟨a_6, he_7, hf⟩ := q_biE hf
      rw [he_7]
      refine lv_iload_n hx hb dX1_cross_20 rfl (lv_at hl 1 rfl) ?_
      obtain ⟨hz_8, hf⟩ := q_gdE hf
      refine q_laload E hH hz_8 dX1_cross_21 ?_
      refine lv_aload_n hx hb dX1_cross_22 rfl (lv_at hl 0 rfl) ?_
      refine q_getR E hH (ci := 1) rfl 2 (by decide) kF_X1_19 (fun _ _ _ => rfl) hk_1 dX1_cross_23 ?_
      obtain ⟨a_9, he_10, hf⟩ := q_biE hf
      rw [he_10]
      refine lv_iload_n hx hb dX1_cross_26 rfl (lv_at hl 2 rfl) ?_
      obtain ⟨hz_11, hf⟩ := q_gdE hf
      refine q_laload E hH hz_11 dX1_cross_27 ?_
      refine lv_lmul hx hb dX1_cross_28 ?_
      refine lv_aload_n hx hb dX1_cross_29 rfl (lv_at hl 0 rfl) ?_
      refine q_getR E hH (ci := 1) rfl 2 (by decide) kF_X1_19 (fun _ _ _ => rfl) hk_1 dX1_cross_30 ?_
      obtain ⟨a_12, he_13, hf⟩ := q_biE hf
      rw [he_13]
      refine lv_iload_n hx hb dX1_cross_33 rfl (lv_at hl 1 rfl) ?_
      obtain ⟨hz_14, hf⟩ := q_gdE hf
      refine q_laload E hH hz_14 dX1_cross_34 ?_
      refine lv_aload_n hx hb dX1_cross_35 rfl (lv_at hl 0 rfl) ?_
      refine q_getR E hH (ci := 1) rfl 1 (by decide) kF_X1_15 (fun _ _ _ => rfl) hk_1 dX1_cross_36 ?_
      obtain ⟨a_15, he_16, hf⟩ := q_biE hf
      rw [he_16]
      refine lv_iload_n hx hb dX1_cross_39 rfl (lv_at hl 2 rfl) ?_
      obtain ⟨hz_17, hf⟩ := q_gdE hf
      refine q_laload E hH hz_17 dX1_cross_40 ?_
      refine lv_lmul hx hb dX1_cross_41 ?_
      refine lv_lsub hx hb dX1_cross_42 ?_
      refine lv_goto (tgt := 47) hx hb dX1_cross_43 (by decide) ?_
      exact bX1_cross_47 E hR hcc h (((gJ M a_6 v1.toNatClampNeg) * (gJ M a_9 v2.toNatClampNeg)) - ((gJ M a_12 v1.toNatClampNeg) * (gJ M a_15 v2.toNatClampNeg))) Z M _ _ _ _ hf hH (lv_sub hl [] rfl)
set_option maxRecDepth 100000 in
theorem tX1_cross (l : Launch) (D : va_G) (cA : Nat → ClassId) (z0 : Nat) (h : Nat) (v1 : Int32) (v2 : Int32) (Z : q_Z) (M : q_C) (r : Int64) (hf : fX1_cross h v1 v2 Z M = some r) : q_Ct l D cA z0 yX1_cross cX1_cross 3 (some .long) 1 21 [.ref h, .int v1, .int v2] Z M (some (.long r)) Z M 0 0 := by
  (refine q_start (plainFor_of_name (by decide)) (Nat.le_of_ble_eq_true rfl) (fun p e s m below meth c H ls E hH hl => ?_); exact bX1_cross_0 E ⟨Nat.le_refl _, Nat.le_refl _⟩ ⟨Nat.le_refl _, Nat.le_refl _⟩ h _ _ Z M H [] ls r hf hH hl)
def fX1_findFarther_L2 (h : Nat) (v1 : Int32) (v2 : Int32) (v3 : Int32) (Z : q_Z) (M : q_C) : Option (Int32 ⊕ (Int32 ⊕ Unit)) :=
  q_gd (zK Z h == 11) <|
  if gI M h 3 ≤ v3 then
    some (Sum.inr (Sum.inr ()))
  else
    Option.bind (fX1_cross h v3 v1 Z M) fun r_2 =>
    if (0 : Int64) ≤ v2.toInt64 * r_2 then
      q_nm (v3 + (1 : Int32)) fun v3_4 =>
      some (Sum.inl v3_4)
    else
      some (Sum.inr (Sum.inl v3))
set_option maxHeartbeats 4000000 in
set_option maxRecDepth 100000 in
theorem lX1_findFarther_2 {cells slots : Nat} {Q : State → Prop} (E : q_E p s m meth c cX1_findFarther 4 RX1 (some .int) "findFarther" D cA) (hR : 2 ≤ R.frames ∧ 43 ≤ R.locals) (hcc : cells ≤ R.cells ∧ slots ≤ R.slots)  (h : Nat) (v1 : Int32) (v2 : Int32) (Z : q_Z) (M : q_C) : ∀ (n : Nat) (v3 : Int32) (H : Heap) (locs : List Loc) (ls : Array Slot) (r : Int32 ⊕ Unit), q_it (fun x => fX1_findFarther_L2 h v1 v2 x Z M) n v3 = some r → q_Hh D cA z0 s Z M H locs → lv_has ls 4 [(0, .ref h), (1, .int v1), (2, .int v2), (3, .int v3)] → (kx0 : ∀ (w3 : Int32) (H : Heap) (locs : List Loc) (ls : Array Slot), (Sum.inl w3) = r → q_Hh D cA z0 s Z M H locs → lv_has ls 4 [(3, .int w3)] → W p l e R s m args below meth c H locs cells slots Q (F0 m 24 ls [])) → (kx1 : ∀  (H : Heap) (locs : List Loc) (ls : Array Slot), (Sum.inr ()) = r → q_Hh D cA z0 s Z M H locs → lv_has ls 4 [] → W p l e R s m args below meth c H locs cells slots Q (F0 m 32 ls [])) → W p l e R s m args below meth c H locs cells slots Q (F0 m 2 ls []) := by
  have hx := E.1
  have hb := E.2.1
  have hown := E.2.2.2.1
  have hT := E.2.2.2.2.2.2.2.1
  intro n
  induction n with
  | zero =>
    intro v3 H locs ls r hf
    cases hf
  | succ n ih =>
    intro v3 H locs ls r hf hH hl ky0 ky1
    obtain ⟨n1, o, hn, hf, ho⟩ := q_itE hf
    cases hn
    have hf : fX1_findFarther_L2 h v1 v2 v3 Z M = some o := hf
    have kb : ∀ (w3 : Int32) (H : Heap) (locs : List Loc) (ls : Array Slot), Sum.inl w3 = o → q_Hh D cA z0 s Z M H locs → lv_has ls 4 [(0, .ref h), (1, .int v1), (2, .int v2), (3, .int w3)] → W p l e R s m args below meth c H locs cells slots Q (F0 m 2 ls []) := by
      intro w3 H locs ls e hH hl
      subst e
      exact ih w3 H locs ls r ho hH hl ky0 ky1
    have kx0 : ∀ (w3 : Int32) (H : Heap) (locs : List Loc) (ls : Array Slot), Sum.inr (Sum.inl w3) = o → q_Hh D cA z0 s Z M H locs → lv_has ls 4 [(3, .int w3)] → W p l e R s m args below meth c H locs cells slots Q (F0 m 24 ls []) := by
      intro w3 H locs ls e hH hl
      subst e
      exact ky0 w3 H locs ls ho hH hl
    have kx1 : ∀  (H : Heap) (locs : List Loc) (ls : Array Slot), Sum.inr (Sum.inr ()) = o → q_Hh D cA z0 s Z M H locs → lv_has ls 4 [] → W p l e R s m args below meth c H locs cells slots Q (F0 m 32 ls []) := by
      intro  H locs ls e hH hl
      subst e
      exact ky1  H locs ls ho hH hl
    unfold fX1_findFarther_L2 at hf
    refine lv_iload_n hx hb dX1_findFarther_2 rfl (lv_at hl 3 rfl) ?_
    refine lv_aload_n hx hb dX1_findFarther_3 rfl (lv_at hl 0 rfl) ?_
    obtain ⟨hk_1, hf⟩ := q_gdE hf
    have hk_1 := q_keq hk_1
    refine q_getI E hH (ci := 1) rfl 3 (by decide) kF_X1_22 (fun _ _ _ => rfl) hk_1 dX1_findFarther_4 ?_
    refine lv_icmp_ge (tgt := 32) hx hb dX1_findFarther_7 (by decide) (fun cc_7 => ?_) (fun cc_7 => ?_)
    · replace hf := q_ifT cc_7 hf
      clear cc_7
      cases hf
      exact kx1  _ _ _ rfl hH (lv_sub hl [] rfl)
    · replace hf := q_ifF cc_7 hf
      clear cc_7
      refine lv_iload_n hx hb dX1_findFarther_10 rfl (lv_at hl 2 rfl) ?_
      refine lv_i2l hx hb dX1_findFarther_11 rfl ?_
      refine lv_aload_n hx hb dX1_findFarther_12 rfl (lv_at hl 0 rfl) ?_
      refine lv_iload_n hx hb dX1_findFarther_13 rfl (lv_at hl 3 rfl) ?_
      refine lv_iload_n hx hb dX1_findFarther_14 rfl (lv_at hl 1 rfl) ?_
      obtain ⟨r_2, hw_3, hf⟩ := q_biE hf
      refine q_cV (As := [.int v3, .int v1]) (rest := [.long v2.toInt64]) (st1 := [.long r_2, .long v2.toInt64]) E hH (tX1_cross l D cA z0 h v3 v1 Z M r_2 hw_3) mw_X1_cross mi_X1_cross (ci := 1) rfl ms_X1_cross kM_X1_30 hk_1 hcc rfl rfl rfl hl.1 rfl rfl (Nat.le_of_ble_eq_true rfl) ⟨Nat.le_trans (by decide) hR.1, Nat.le_trans (by decide) hR.2⟩ dX1_findFarther_15 (fun H locs hH => ?_)
      refine lv_lmul hx hb dX1_findFarther_18 ?_
      refine lv_lconst (v := 0) hx hb dX1_findFarther_19 (by decide) ?_
      refine q_lcmp_ge (pc1 := 21) (tgt := 26) hx hb dX1_findFarther_20 rfl dX1_findFarther_21 (by decide) (fun cc_6 => ?_) (fun cc_6 => ?_)
      · replace hf := q_ifT cc_6 hf
        clear cc_6
        obtain ⟨v3_4, hn_5⟩ : ∃ y : Int32, y = v3 + (1 : Int32) := ⟨_, rfl⟩
        replace hf := q_nmE hn_5 hf
        refine lv_iinc (v := v3_4) (lv' := [(3, .int v3_4), (0, .ref h), (1, .int v1), (2, .int v2)]) hx hb dX1_findFarther_26 hl (k := 3) rfl (by rw [hn_5]; rfl) (by decide) rfl (fun ls hl => ?_)
        clear hn_5
        refine lv_goto (tgt := 2) hx hb dX1_findFarther_29 (by decide) ?_
        cases hf
        exact kb v3_4 _ _ _ rfl hH (lv_sub hl [1, 2, 3, 0] rfl)
      · replace hf := q_ifF cc_6 hf
        clear cc_6
        cases hf
        exact kx0 v3 _ _ _ rfl hH (lv_sub hl [3] rfl)
def fX1_findFarther (h : Nat) (v1 : Int32) (v2 : Int32) (Z : q_Z) (M : q_C) : Option (Int32) :=
  Option.bind (q_it (fun x => fX1_findFarther_L2 h v1 v2 x Z M) q_FU (0 : Int32)) fun r_8 =>
  q_sm r_8 (fun e_10 =>
    q_nm e_10 fun v3_11 =>
    some v3_11
  ) fun e_12 =>
  some (-1 : Int32)
set_option maxHeartbeats 4000000 in
set_option maxRecDepth 100000 in
theorem bX1_findFarther_0 {cells slots : Nat} (E : q_E p s m meth c cX1_findFarther 4 RX1 (some .int) "findFarther" D cA) (hR : 2 ≤ R.frames ∧ 43 ≤ R.locals) (hcc : cells ≤ R.cells ∧ slots ≤ R.slots) (h : Nat) (v1 : Int32) (v2 : Int32) (Z : q_Z) (M : q_C) (H : Heap) (locs : List Loc) (ls : Array Slot) (r : Int32) (hf : fX1_findFarther h v1 v2 Z M = some r) (hH : q_Hh D cA z0 s Z M H locs) (hl : lv_has ls 4 [(0, .ref h), (1, .int v1), (2, .int v2)])  : W p l e R s m args below meth c H locs cells slots (MQ below (q_Q D cA z0 (some (.int r)) Z M) args s cells slots (fun q => z0 ≤ q)) (F0 m 0 ls []) := by
  have hx := E.1
  have hb := E.2.1
  have hown := E.2.2.2.1
  have hT := E.2.2.2.2.2.2.2.1
  unfold fX1_findFarther at hf
  refine lv_iconst (v := 0) hx hb dX1_findFarther_0 (by decide) ?_
  refine lv_istore_n (lv' := [(3, .int (0 : Int32)), (0, .ref h), (1, .int v1), (2, .int v2)]) hx hb dX1_findFarther_1 rfl hl (by decide) rfl (fun ls hl => ?_)
  obtain ⟨r_8, hr_9, hf⟩ := q_biE hf
  refine lX1_findFarther_2 E hR hcc h v1 v2 Z M q_FU (0 : Int32) _ _ _ r_8 hr_9 hH (lv_sub hl [1, 2, 3, 0] rfl) (fun v3_11 H locs ls he_13 hH hl => ?_) (fun  H locs ls he_14 hH hl => ?_)
  · subst he_13
    replace hf := q_smL hf
    replace hf := q_nmE (x := v3_11) rfl hf
    refine lv_iload_n hx hb dX1_findFarther_24 rfl (lv_at hl 0 rfl) ?_
    cases hf
    exact q_iret E hH dX1_findFarther_25
  · subst he_14
    replace hf := q_smR hf
    refine lv_iconst (v := -1) hx hb dX1_findFarther_32 (by decide) ?_
    cases hf
    exact q_iret E hH dX1_findFarther_33
set_option maxRecDepth 100000 in
theorem tX1_findFarther (l : Launch) (D : va_G) (cA : Nat → ClassId) (z0 : Nat) (h : Nat) (v1 : Int32) (v2 : Int32) (Z : q_Z) (M : q_C) (r : Int32) (hf : fX1_findFarther h v1 v2 Z M = some r) : q_Ct l D cA z0 yX1_findFarther cX1_findFarther 4 (some .int) 2 43 [.ref h, .int v1, .int v2] Z M (some (.int r)) Z M 0 0 := by
  (refine q_start (plainFor_of_name (by decide)) (Nat.le_of_ble_eq_true rfl) (fun p e s m below meth c H ls E hH hl => ?_); exact bX1_findFarther_0 E ⟨Nat.le_refl _, Nat.le_refl _⟩ ⟨Nat.le_refl _, Nat.le_refl _⟩ h _ _ Z M H [] ls r hf hH hl)
def fX1_edge_b58 (h : Nat) (v2 : Int32) (v3 : Int32) (v4 : Int32) (Z : q_Z) (M : q_C) : Option ((Int32 × Int32) ⊕ (Int32 ⊕ Unit)) :=
  q_nm (v4 + (1 : Int32)) fun v4_6 =>
  some (Sum.inl (v3, v4_6))
set_option maxHeartbeats 4000000 in
set_option maxRecDepth 100000 in
theorem bX1_edge_58 {cells slots : Nat} {Q : State → Prop} (E : q_E p s m meth c cX1_edge 5 RX1 (some .int) "edge" D cA) (hR : 3 ≤ R.frames ∧ 66 ≤ R.locals) (hcc : cells ≤ R.cells ∧ slots ≤ R.slots) (h : Nat) (v2 : Int32) (v3 : Int32) (v4 : Int32) (Z : q_Z) (M : q_C) (H : Heap) (locs : List Loc) (ls : Array Slot) (o : (Int32 × Int32) ⊕ (Int32 ⊕ Unit)) (hf : fX1_edge_b58 h v2 v3 v4 Z M = some o) (hH : q_Hh D cA z0 s Z M H locs) (hl : lv_has ls 5 [(0, .ref h), (2, .int v2), (3, .int v3), (4, .int v4)]) (kb : ∀ (w3 : Int32) (w4 : Int32) (H : Heap) (locs : List Loc) (ls : Array Slot), Sum.inl (w3, w4) = o → q_Hh D cA z0 s Z M H locs → lv_has ls 5 [(0, .ref h), (2, .int v2), (3, .int w3), (4, .int w4)] → W p l e R s m args below meth c H locs cells slots Q (F0 m 15 ls [])) (kx0 : ∀ (w4 : Int32) (H : Heap) (locs : List Loc) (ls : Array Slot), Sum.inr (Sum.inl w4) = o → q_Hh D cA z0 s Z M H locs → lv_has ls 5 [(4, .int w4)] → W p l e R s m args below meth c H locs cells slots Q (F0 m 55 ls [])) (kx1 : ∀  (H : Heap) (locs : List Loc) (ls : Array Slot), Sum.inr (Sum.inr ()) = o → q_Hh D cA z0 s Z M H locs → lv_has ls 5 [] → W p l e R s m args below meth c H locs cells slots Q (F0 m 64 ls [])) : W p l e R s m args below meth c H locs cells slots Q (F0 m 58 ls []) := by
  have hx := E.1
  have hb := E.2.1
  have hown := E.2.2.2.1
  have hT := E.2.2.2.2.2.2.2.1
  unfold fX1_edge_b58 at hf
  obtain ⟨v4_6, hn_7⟩ : ∃ y : Int32, y = v4 + (1 : Int32) := ⟨_, rfl⟩
  replace hf := q_nmE hn_7 hf
  refine lv_iinc (v := v4_6) (lv' := [(4, .int v4_6), (0, .ref h), (2, .int v2), (3, .int v3)]) hx hb dX1_edge_58 hl (k := 3) rfl (by rw [hn_7]; rfl) (by decide) rfl (fun ls hl => ?_)
  clear hn_7
  refine lv_goto (tgt := 15) hx hb dX1_edge_61 (by decide) ?_
  cases hf
  exact kb v3 v4_6 _ _ _ rfl hH (lv_sub hl [1, 2, 3, 0] rfl)
def fX1_edge_L15 (h : Nat) (v2 : Int32) (v3 : Int32) (v4 : Int32) (Z : q_Z) (M : q_C) : Option ((Int32 × Int32) ⊕ (Int32 ⊕ Unit)) :=
  q_gd (zK Z h == 11) <|
  if gI M h 3 ≤ v4 then
    some (Sum.inr (Sum.inr ()))
  else
    Option.bind (fX1_cross h v3 v4 Z M) fun r_2 =>
    if (0 : Int64) ≤ v2.toInt64 * r_2 then
      Option.bind (fX1_findFarther h v4 v2 Z M) fun r_4 =>
      if r_4 = (-1 : Int32) then
        some (Sum.inr (Sum.inl v4))
      else
        fX1_edge_b58 h v2 r_4 v4 Z M
    else
      fX1_edge_b58 h v2 v3 v4 Z M
set_option maxHeartbeats 4000000 in
set_option maxRecDepth 100000 in
theorem lX1_edge_15 {cells slots : Nat} {Q : State → Prop} (E : q_E p s m meth c cX1_edge 5 RX1 (some .int) "edge" D cA) (hR : 3 ≤ R.frames ∧ 66 ≤ R.locals) (hcc : cells ≤ R.cells ∧ slots ≤ R.slots)  (h : Nat) (v2 : Int32) (Z : q_Z) (M : q_C) : ∀ (n : Nat) (v3 : Int32) (v4 : Int32) (H : Heap) (locs : List Loc) (ls : Array Slot) (r : Int32 ⊕ Unit), q_it (fun x => fX1_edge_L15 h v2 x.1 x.2 Z M) n (v3, v4) = some r → q_Hh D cA z0 s Z M H locs → lv_has ls 5 [(0, .ref h), (2, .int v2), (3, .int v3), (4, .int v4)] → (kx0 : ∀ (w4 : Int32) (H : Heap) (locs : List Loc) (ls : Array Slot), (Sum.inl w4) = r → q_Hh D cA z0 s Z M H locs → lv_has ls 5 [(4, .int w4)] → W p l e R s m args below meth c H locs cells slots Q (F0 m 55 ls [])) → (kx1 : ∀  (H : Heap) (locs : List Loc) (ls : Array Slot), (Sum.inr ()) = r → q_Hh D cA z0 s Z M H locs → lv_has ls 5 [] → W p l e R s m args below meth c H locs cells slots Q (F0 m 64 ls [])) → W p l e R s m args below meth c H locs cells slots Q (F0 m 15 ls []) := by
  have hx := E.1
  have hb := E.2.1
  have hown := E.2.2.2.1
  have hT := E.2.2.2.2.2.2.2.1
  intro n
  induction n with
  | zero =>
    intro v3 v4 H locs ls r hf
    cases hf
  | succ n ih =>
    intro v3 v4 H locs ls r hf hH hl ky0 ky1
    obtain ⟨n1, o, hn, hf, ho⟩ := q_itE hf
    cases hn
    have hf : fX1_edge_L15 h v2 v3 v4 Z M = some o := hf
    have kb : ∀ (w3 : Int32) (w4 : Int32) (H : Heap) (locs : List Loc) (ls : Array Slot), Sum.inl (w3, w4) = o → q_Hh D cA z0 s Z M H locs → lv_has ls 5 [(0, .ref h), (2, .int v2), (3, .int w3), (4, .int w4)] → W p l e R s m args below meth c H locs cells slots Q (F0 m 15 ls []) := by
      intro w3 w4 H locs ls e hH hl
      subst e
      exact ih w3 w4 H locs ls r ho hH hl ky0 ky1
    have kx0 : ∀ (w4 : Int32) (H : Heap) (locs : List Loc) (ls : Array Slot), Sum.inr (Sum.inl w4) = o → q_Hh D cA z0 s Z M H locs → lv_has ls 5 [(4, .int w4)] → W p l e R s m args below meth c H locs cells slots Q (F0 m 55 ls []) := by
      intro w4 H locs ls e hH hl
      subst e
      exact ky0 w4 H locs ls ho hH hl
    have kx1 : ∀  (H : Heap) (locs : List Loc) (ls : Array Slot), Sum.inr (Sum.inr ()) = o → q_Hh D cA z0 s Z M H locs → lv_has ls 5 [] → W p l e R s m args below meth c H locs cells slots Q (F0 m 64 ls []) := by
      intro  H locs ls e hH hl
      subst e
      exact ky1  H locs ls ho hH hl
    unfold fX1_edge_L15 at hf
    refine lv_iload hx hb dX1_edge_15 (lv_at hl 3 rfl) ?_
    refine lv_aload_n hx hb dX1_edge_17 rfl (lv_at hl 0 rfl) ?_
    obtain ⟨hk_1, hf⟩ := q_gdE hf
    have hk_1 := q_keq hk_1
    refine q_getI E hH (ci := 1) rfl 3 (by decide) kF_X1_22 (fun _ _ _ => rfl) hk_1 dX1_edge_18 ?_
    refine lv_icmp_ge (tgt := 64) hx hb dX1_edge_21 (by decide) (fun cc_10 => ?_) (fun cc_10 => ?_)
    · replace hf := q_ifT cc_10 hf
      clear cc_10
      cases hf
      exact kx1  _ _ _ rfl hH (lv_sub hl [] rfl)
    · replace hf := q_ifF cc_10 hf
      clear cc_10
      refine lv_iload_n hx hb dX1_edge_24 rfl (lv_at hl 1 rfl) ?_
      refine lv_i2l hx hb dX1_edge_25 rfl ?_
      refine lv_aload_n hx hb dX1_edge_26 rfl (lv_at hl 0 rfl) ?_
      refine lv_iload_n hx hb dX1_edge_27 rfl (lv_at hl 2 rfl) ?_
      refine lv_iload hx hb dX1_edge_28 (lv_at hl 3 rfl) ?_
      obtain ⟨r_2, hw_3, hf⟩ := q_biE hf
      refine q_cV (As := [.int v3, .int v4]) (rest := [.long v2.toInt64]) (st1 := [.long r_2, .long v2.toInt64]) E hH (tX1_cross l D cA z0 h v3 v4 Z M r_2 hw_3) mw_X1_cross mi_X1_cross (ci := 1) rfl ms_X1_cross kM_X1_30 hk_1 hcc rfl rfl rfl hl.1 rfl rfl (Nat.le_of_ble_eq_true rfl) ⟨Nat.le_trans (by decide) hR.1, Nat.le_trans (by decide) hR.2⟩ dX1_edge_30 (fun H locs hH => ?_)
      refine lv_lmul hx hb dX1_edge_33 ?_
      refine lv_lconst (v := 0) hx hb dX1_edge_34 (by decide) ?_
      refine q_lcmp_ge (pc1 := 36) (tgt := 42) hx hb dX1_edge_35 rfl dX1_edge_36 (by decide) (fun cc_9 => ?_) (fun cc_9 => ?_)
      · replace hf := q_ifT cc_9 hf
        clear cc_9
        refine lv_aload_n hx hb dX1_edge_42 rfl (lv_at hl 0 rfl) ?_
        refine lv_iload hx hb dX1_edge_43 (lv_at hl 3 rfl) ?_
        refine lv_iload_n hx hb dX1_edge_45 rfl (lv_at hl 1 rfl) ?_
        obtain ⟨r_4, hw_5, hf⟩ := q_biE hf
        refine q_cV (As := [.int v4, .int v2]) (rest := []) (st1 := [.int r_4]) E hH (tX1_findFarther l D cA z0 h v4 v2 Z M r_4 hw_5) mw_X1_findFarther mi_X1_findFarther (ci := 1) rfl ms_X1_findFarther kM_X1_34 hk_1 hcc rfl rfl rfl hl.1 rfl rfl (Nat.le_of_ble_eq_true rfl) ⟨Nat.le_trans (by decide) hR.1, Nat.le_trans (by decide) hR.2⟩ dX1_edge_46 (fun H locs hH => ?_)
        refine lv_istore_n (lv' := [(3, .int r_4), (0, .ref h), (2, .int v2), (4, .int v4)]) hx hb dX1_edge_49 rfl hl (by decide) rfl (fun ls hl => ?_)
        refine lv_iload_n hx hb dX1_edge_50 rfl (lv_at hl 0 rfl) ?_
        refine lv_iconst (v := -1) hx hb dX1_edge_51 (by decide) ?_
        refine lv_icmp_ne (tgt := 58) hx hb dX1_edge_52 (by decide) (fun cc_8 => ?_) (fun cc_8 => ?_)
        · replace hf := q_ifF cc_8 hf
          clear cc_8
          exact bX1_edge_58 E hR hcc h v2 r_4 v4 Z M _ _ _ _ hf hH (lv_sub hl [1, 2, 0, 3] rfl) kb kx0 kx1
        · replace hf := q_ifT cc_8 hf
          clear cc_8
          cases hf
          exact kx0 v4 _ _ _ rfl hH (lv_sub hl [3] rfl)
      · replace hf := q_ifF cc_9 hf
        clear cc_9
        refine lv_goto (tgt := 58) hx hb dX1_edge_39 (by decide) ?_
        exact bX1_edge_58 E hR hcc h v2 v3 v4 Z M _ _ _ _ hf hH (lv_sub hl [0, 1, 2, 3] rfl) kb kx0 kx1
def fX1_edge_b9 (h : Nat) (s0 : Int32) (Z : q_Z) (M : q_C) : Option (Int32) :=
  Option.bind (q_it (fun x => fX1_edge_L15 h s0 x.1 x.2 Z M) q_FU ((0 : Int32), (0 : Int32))) fun r_11 =>
  q_sm r_11 (fun e_13 =>
    q_nm e_13 fun v4_14 =>
    some v4_14
  ) fun e_15 =>
  some (-1 : Int32)
set_option maxHeartbeats 4000000 in
set_option maxRecDepth 100000 in
theorem bX1_edge_9 {cells slots : Nat} (E : q_E p s m meth c cX1_edge 5 RX1 (some .int) "edge" D cA) (hR : 3 ≤ R.frames ∧ 66 ≤ R.locals) (hcc : cells ≤ R.cells ∧ slots ≤ R.slots) (h : Nat) (s0 : Int32) (Z : q_Z) (M : q_C) (H : Heap) (locs : List Loc) (ls : Array Slot) (r : Int32) (hf : fX1_edge_b9 h s0 Z M = some r) (hH : q_Hh D cA z0 s Z M H locs) (hl : lv_has ls 5 [(0, .ref h)])  : W p l e R s m args below meth c H locs cells slots (MQ below (q_Q D cA z0 (some (.int r)) Z M) args s cells slots (fun q => z0 ≤ q)) (F0 m 9 ls [.int s0]) := by
  have hx := E.1
  have hb := E.2.1
  have hown := E.2.2.2.1
  have hT := E.2.2.2.2.2.2.2.1
  unfold fX1_edge_b9 at hf
  refine lv_istore_n (lv' := [(2, .int s0), (0, .ref h)]) hx hb dX1_edge_9 rfl hl (by decide) rfl (fun ls hl => ?_)
  refine lv_iconst (v := 0) hx hb dX1_edge_10 (by decide) ?_
  refine lv_istore_n (lv' := [(3, .int (0 : Int32)), (2, .int s0), (0, .ref h)]) hx hb dX1_edge_11 rfl hl (by decide) rfl (fun ls hl => ?_)
  refine lv_iconst (v := 0) hx hb dX1_edge_12 (by decide) ?_
  refine lv_istore (lv' := [(4, .int (0 : Int32)), (3, .int (0 : Int32)), (2, .int s0), (0, .ref h)]) hx hb dX1_edge_13 hl (by decide) rfl (fun ls hl => ?_)
  obtain ⟨r_11, hr_12, hf⟩ := q_biE hf
  refine lX1_edge_15 E hR hcc h s0 Z M q_FU (0 : Int32) (0 : Int32) _ _ _ r_11 hr_12 hH (lv_sub hl [3, 2, 1, 0] rfl) (fun v4_14 H locs ls he_16 hH hl => ?_) (fun  H locs ls he_17 hH hl => ?_)
  · subst he_16
    replace hf := q_smL hf
    replace hf := q_nmE (x := v4_14) rfl hf
    refine lv_iload hx hb dX1_edge_55 (lv_at hl 0 rfl) ?_
    cases hf
    exact q_iret E hH dX1_edge_57
  · subst he_17
    replace hf := q_smR hf
    refine lv_iconst (v := -1) hx hb dX1_edge_64 (by decide) ?_
    cases hf
    exact q_iret E hH dX1_edge_65
def fX1_edge (h : Nat) (v1 : Int32) (Z : q_Z) (M : q_C) : Option (Int32) :=
  if v1 = 0 then
    fX1_edge_b9 h (-1 : Int32) Z M
  else
    fX1_edge_b9 h (1 : Int32) Z M
set_option maxHeartbeats 4000000 in
set_option maxRecDepth 100000 in
theorem bX1_edge_0 {cells slots : Nat} (E : q_E p s m meth c cX1_edge 5 RX1 (some .int) "edge" D cA) (hR : 3 ≤ R.frames ∧ 66 ≤ R.locals) (hcc : cells ≤ R.cells ∧ slots ≤ R.slots) (h : Nat) (v1 : Int32) (Z : q_Z) (M : q_C) (H : Heap) (locs : List Loc) (ls : Array Slot) (r : Int32) (hf : fX1_edge h v1 Z M = some r) (hH : q_Hh D cA z0 s Z M H locs) (hl : lv_has ls 5 [(0, .ref h), (1, .int v1)])  : W p l e R s m args below meth c H locs cells slots (MQ below (q_Q D cA z0 (some (.int r)) Z M) args s cells slots (fun q => z0 ≤ q)) (F0 m 0 ls []) := by
  have hx := E.1
  have hb := E.2.1
  have hown := E.2.2.2.1
  have hT := E.2.2.2.2.2.2.2.1
  unfold fX1_edge at hf
  refine lv_iload_n hx hb dX1_edge_0 rfl (lv_at hl 1 rfl) ?_
  refine lv_if_eq (tgt := 8) hx hb dX1_edge_1 (by decide) (fun cc_18 => ?_) (fun cc_18 => ?_)
  · replace hf := q_ifT cc_18 hf
    clear cc_18
    refine lv_iconst (v := -1) hx hb dX1_edge_8 (by decide) ?_
    exact bX1_edge_9 E hR hcc h (-1 : Int32) Z M _ _ _ _ hf hH (lv_sub hl [0] rfl)
  · replace hf := q_ifF cc_18 hf
    clear cc_18
    refine lv_iconst (v := 1) hx hb dX1_edge_4 (by decide) ?_
    refine lv_goto (tgt := 9) hx hb dX1_edge_5 (by decide) ?_
    exact bX1_edge_9 E hR hcc h (1 : Int32) Z M _ _ _ _ hf hH (lv_sub hl [0] rfl)
set_option maxRecDepth 100000 in
theorem tX1_edge (l : Launch) (D : va_G) (cA : Nat → ClassId) (z0 : Nat) (h : Nat) (v1 : Int32) (Z : q_Z) (M : q_C) (r : Int32) (hf : fX1_edge h v1 Z M = some r) : q_Ct l D cA z0 yX1_edge cX1_edge 5 (some .int) 3 66 [.ref h, .int v1] Z M (some (.int r)) Z M 0 0 := by
  (refine q_start (plainFor_of_name (by decide)) (Nat.le_of_ble_eq_true rfl) (fun p e s m below meth c H ls E hH hl => ?_); exact bX1_edge_0 E ⟨Nat.le_refl _, Nat.le_refl _⟩ ⟨Nat.le_refl _, Nat.le_refl _⟩ h _ Z M H [] ls r hf hH hl)
def fX1_width_b38 (h : Nat) (Z : q_Z) (M : q_C) : Option (Int32) :=
  some (-2 : Int32)
set_option maxHeartbeats 4000000 in
set_option maxRecDepth 100000 in
theorem bX1_width_38 {cells slots : Nat} (E : q_E p s m meth c cX1_width 5 RX1 (some .int) "width" D cA) (hR : 4 ≤ R.frames ∧ 90 ≤ R.locals) (hcc : cells ≤ R.cells ∧ slots ≤ R.slots) (h : Nat) (Z : q_Z) (M : q_C) (H : Heap) (locs : List Loc) (ls : Array Slot) (r : Int32) (hf : fX1_width_b38 h Z M = some r) (hH : q_Hh D cA z0 s Z M H locs) (hl : lv_has ls 5 [])  : W p l e R s m args below meth c H locs cells slots (MQ below (q_Q D cA z0 (some (.int r)) Z M) args s cells slots (fun q => z0 ≤ q)) (F0 m 38 ls []) := by
  have hx := E.1
  have hb := E.2.1
  have hown := E.2.2.2.1
  have hT := E.2.2.2.2.2.2.2.1
  unfold fX1_width_b38 at hf
  refine lv_bipush (v := -2) hx hb dX1_width_38 (by decide) ?_
  cases hf
  exact q_iret E hH dX1_width_40
def fX1_width (h : Nat) (Z : q_Z) (M : q_C) : Option (Int32) :=
  q_gd (zK Z h == 11) <|
  if (1 : Int32) ≤ gI M h 3 then
    Option.bind (fX1_edge h (1 : Int32) Z M) fun r_2 =>
    Option.bind (fX1_edge h (0 : Int32) Z M) fun r_4 =>
    Option.bind (fX1_isHeld h r_2 Z M) fun r_6 =>
    if r_6 = 0 then
      fX1_width_b38 h Z M
    else
      Option.bind (fX1_isHeld h r_4 Z M) fun r_8 =>
      if r_8 = 0 then
        fX1_width_b38 h Z M
      else
        Option.bind (gR M h 1) fun a_10 =>
        q_gd (q_ok Z a_10 2 r_2) <|
        Option.bind (gR M h 1) fun a_13 =>
        q_gd (q_ok Z a_13 2 r_4) <|
        Option.bind (gR M h 2) fun a_16 =>
        q_gd (q_ok Z a_16 2 r_2) <|
        Option.bind (gR M h 2) fun a_19 =>
        q_gd (q_ok Z a_19 2 r_4) <|
        q_nm (((gJ M a_10 r_2.toNatClampNeg) * (gJ M a_13 r_4.toNatClampNeg)) + ((gJ M a_16 r_2.toNatClampNeg) * (gJ M a_19 r_4.toNatClampNeg))) fun v3_22 =>
        if (0 : Int64) < v3_22 then
          Option.bind (fX1_cross h r_2 r_4 Z M) fun r_24 =>
          Option.bind (fJ9_abs_067f4 r_24) fun r_26 =>
          q_gd (!(decide (v3_22 = 0))) <|
          Option.bind (fJ9_min_f86c9 (2147483647 : Int64) (((1000 : Int64) * r_26) / v3_22)) fun r_29 =>
          some r_29.toInt32
        else
          some (-2 : Int32)
  else
    some (-1 : Int32)
set_option maxHeartbeats 4000000 in
set_option maxRecDepth 100000 in
theorem bX1_width_0 {cells slots : Nat} (E : q_E p s m meth c cX1_width 5 RX1 (some .int) "width" D cA) (hR : 4 ≤ R.frames ∧ 90 ≤ R.locals) (hcc : cells ≤ R.cells ∧ slots ≤ R.slots) (h : Nat) (Z : q_Z) (M : q_C) (H : Heap) (locs : List Loc) (ls : Array Slot) (r : Int32) (hf : fX1_width h Z M = some r) (hH : q_Hh D cA z0 s Z M H locs) (hl : lv_has ls 5 [(0, .ref h)])  : W p l e R s m args below meth c H locs cells slots (MQ below (q_Q D cA z0 (some (.int r)) Z M) args s cells slots (fun q => z0 ≤ q)) (F0 m 0 ls []) := by
  have hx := E.1
  have hb := E.2.1
  have hown := E.2.2.2.1
  have hT := E.2.2.2.2.2.2.2.1
  unfold fX1_width at hf
  refine lv_aload_n hx hb dX1_width_0 rfl (lv_at hl 0 rfl) ?_
  obtain ⟨hk_1, hf⟩ := q_gdE hf
  have hk_1 := q_keq hk_1
  refine q_getI E hH (ci := 1) rfl 3 (by decide) kF_X1_22 (fun _ _ _ => rfl) hk_1 dX1_width_1 ?_
  refine lv_iconst (v := 1) hx hb dX1_width_4 (by decide) ?_
  refine lv_icmp_ge (tgt := 10) hx hb dX1_width_5 (by decide) (fun cc_34 => ?_) (fun cc_34 => ?_)
  · replace hf := q_ifT cc_34 hf
    clear cc_34
    refine lv_aload_n hx hb dX1_width_10 rfl (lv_at hl 0 rfl) ?_
    refine lv_iconst (v := 1) hx hb dX1_width_11 (by decide) ?_
    obtain ⟨r_2, hw_3, hf⟩ := q_biE hf
    refine q_cV (As := [.int (1 : Int32)]) (rest := []) (st1 := [.int r_2]) E hH (tX1_edge l D cA z0 h (1 : Int32) Z M r_2 hw_3) mw_X1_edge mi_X1_edge (ci := 1) rfl ms_X1_edge kM_X1_38 hk_1 hcc rfl rfl rfl hl.1 rfl rfl (Nat.le_of_ble_eq_true rfl) ⟨Nat.le_trans (by decide) hR.1, Nat.le_trans (by decide) hR.2⟩ dX1_width_12 (fun H locs hH => ?_)
    refine lv_istore_n (lv' := [(1, .int r_2), (0, .ref h)]) hx hb dX1_width_15 rfl hl (by decide) rfl (fun ls hl => ?_)
    refine lv_aload_n hx hb dX1_width_16 rfl (lv_at hl 1 rfl) ?_
    refine lv_iconst (v := 0) hx hb dX1_width_17 (by decide) ?_
    obtain ⟨r_4, hw_5, hf⟩ := q_biE hf
    refine q_cV (As := [.int (0 : Int32)]) (rest := []) (st1 := [.int r_4]) E hH (tX1_edge l D cA z0 h (0 : Int32) Z M r_4 hw_5) mw_X1_edge mi_X1_edge (ci := 1) rfl ms_X1_edge kM_X1_38 hk_1 hcc rfl rfl rfl hl.1 rfl rfl (Nat.le_of_ble_eq_true rfl) ⟨Nat.le_trans (by decide) hR.1, Nat.le_trans (by decide) hR.2⟩ dX1_width_18 (fun H locs hH => ?_)
    refine lv_istore_n (lv' := [(2, .int r_4), (1, .int r_2), (0, .ref h)]) hx hb dX1_width_21 rfl hl (by decide) rfl (fun ls hl => ?_)
    refine lv_aload_n hx hb dX1_width_22 rfl (lv_at hl 2 rfl) ?_
    refine lv_iload_n hx hb dX1_width_23 rfl (lv_at hl 1 rfl) ?_
    obtain ⟨r_6, hw_7, hf⟩ := q_biE hf
    refine q_cV (As := [.int r_2]) (rest := []) (st1 := [.int r_6]) E hH (tX1_isHeld l D cA z0 h r_2 Z M r_6 hw_7) mw_X1_isHeld mi_X1_isHeld (ci := 1) rfl ms_X1_isHeld kM_X1_26 hk_1 hcc rfl rfl rfl hl.1 rfl rfl (Nat.le_of_ble_eq_true rfl) ⟨Nat.le_trans (by decide) hR.1, Nat.le_trans (by decide) hR.2⟩ dX1_width_24 (fun H locs hH => ?_)
    refine lv_if_eq (tgt := 38) hx hb dX1_width_27 (by decide) (fun cc_33 => ?_) (fun cc_33 => ?_)
    · replace hf := q_ifT cc_33 hf
      clear cc_33
      exact bX1_width_38 E hR hcc h Z M _ _ _ _ hf hH (lv_sub hl [] rfl)
    · replace hf := q_ifF cc_33 hf
      clear cc_33
      refine lv_aload_n hx hb dX1_width_30 rfl (lv_at hl 2 rfl) ?_
      refine lv_iload_n hx hb dX1_width_31 rfl (lv_at hl 0 rfl) ?_
      obtain ⟨r_8, hw_9, hf⟩ := q_biE hf
      refine q_cV (As := [.int r_4]) (rest := []) (st1 := [.int r_8]) E hH (tX1_isHeld l D cA z0 h r_4 Z M r_8 hw_9) mw_X1_isHeld mi_X1_isHeld (ci := 1) rfl ms_X1_isHeld kM_X1_26 hk_1 hcc rfl rfl rfl hl.1 rfl rfl (Nat.le_of_ble_eq_true rfl) ⟨Nat.le_trans (by decide) hR.1, Nat.le_trans (by decide) hR.2⟩ dX1_width_32 (fun H locs hH => ?_)
      refine lv_if_ne (tgt := 41) hx hb dX1_width_35 (by decide) (fun cc_32 => ?_) (fun cc_32 => ?_)
      · replace hf := q_ifF cc_32 hf
        clear cc_32
        refine lv_aload_n hx hb dX1_width_41 rfl (lv_at hl 2 rfl) ?_
        refine q_getR E hH (ci := 1) rfl 1 (by decide) kF_X1_15 (fun _ _ _ => rfl) hk_1 dX1_width_42 ?_
        obtain ⟨a_10, he_11, hf⟩ := q_biE hf
        rw [he_11]
        refine lv_iload_n hx hb dX1_width_45 rfl (lv_at hl 1 rfl) ?_
        obtain ⟨hz_12, hf⟩ := q_gdE hf
        refine q_laload E hH hz_12 dX1_width_46 ?_
        refine lv_aload_n hx hb dX1_width_47 rfl (lv_at hl 2 rfl) ?_
        refine q_getR E hH (ci := 1) rfl 1 (by decide) kF_X1_15 (fun _ _ _ => rfl) hk_1 dX1_width_48 ?_
        obtain ⟨a_13, he_14, hf⟩ := q_biE hf
        rw [he_14]
        refine lv_iload_n hx hb dX1_width_51 rfl (lv_at hl 0 rfl) ?_
        obtain ⟨hz_15, hf⟩ := q_gdE hf
        refine q_laload E hH hz_15 dX1_width_52 ?_
        refine lv_lmul hx hb dX1_width_53 ?_
        refine lv_aload_n hx hb dX1_width_54 rfl (lv_at hl 2 rfl) ?_
        refine q_getR E hH (ci := 1) rfl 2 (by decide) kF_X1_19 (fun _ _ _ => rfl) hk_1 dX1_width_55 ?_
        obtain ⟨a_16, he_17, hf⟩ := q_biE hf
        rw [he_17]
        refine lv_iload_n hx hb dX1_width_58 rfl (lv_at hl 1 rfl) ?_
        obtain ⟨hz_18, hf⟩ := q_gdE hf
        refine q_laload E hH hz_18 dX1_width_59 ?_
        refine lv_aload_n hx hb dX1_width_60 rfl (lv_at hl 2 rfl) ?_
        refine q_getR E hH (ci := 1) rfl 2 (by decide) kF_X1_19 (fun _ _ _ => rfl) hk_1 dX1_width_61 ?_
        obtain ⟨a_19, he_20, hf⟩ := q_biE hf
        rw [he_20]
        refine lv_iload_n hx hb dX1_width_64 rfl (lv_at hl 0 rfl) ?_
        obtain ⟨hz_21, hf⟩ := q_gdE hf
        refine q_laload E hH hz_21 dX1_width_65 ?_
        refine lv_lmul hx hb dX1_width_66 ?_
        refine lv_ladd hx hb dX1_width_67 ?_
        refine lv_topl (fun v3_22 hn_23 => ?_)
        replace hf := q_nmE hn_23 hf
        clear hn_23
        refine lv_lstore_n (lv' := [(3, .long v3_22), (2, .int r_4), (1, .int r_2), (0, .ref h)]) hx hb dX1_width_68 rfl hl (by decide) rfl (fun ls hl => ?_)
        refine lv_lload_n hx hb dX1_width_69 rfl (lv_at hl 0 rfl) ?_
        refine lv_lconst (v := 0) hx hb dX1_width_70 (by decide) ?_
        refine q_lcmp_gt (pc1 := 72) (tgt := 78) hx hb dX1_width_71 rfl dX1_width_72 (by decide) (fun cc_31 => ?_) (fun cc_31 => ?_)
        · replace hf := q_ifT cc_31 hf
          clear cc_31
          refine lv_ldc2 hx hb hown (hT.1 _ _ kK_X1_42) dX1_width_78 ?_
          refine lv_ldc2 hx hb hown (hT.1 _ _ kK_X1_44) dX1_width_81 ?_
          refine lv_aload_n hx hb dX1_width_84 rfl (lv_at hl 3 rfl) ?_
          refine lv_iload_n hx hb dX1_width_85 rfl (lv_at hl 2 rfl) ?_
          refine lv_iload_n hx hb dX1_width_86 rfl (lv_at hl 1 rfl) ?_
          obtain ⟨r_24, hw_25, hf⟩ := q_biE hf
          refine q_cV (As := [.int r_2, .int r_4]) (rest := [.long (1000 : Int64), .long (2147483647 : Int64)]) (st1 := [.long r_24, .long (1000 : Int64), .long (2147483647 : Int64)]) E hH (tX1_cross l D cA z0 h r_2 r_4 Z M r_24 hw_25) mw_X1_cross mi_X1_cross (ci := 1) rfl ms_X1_cross kM_X1_30 hk_1 hcc rfl rfl rfl hl.1 rfl rfl (Nat.le_of_ble_eq_true rfl) ⟨Nat.le_trans (by decide) hR.1, Nat.le_trans (by decide) hR.2⟩ dX1_width_87 (fun H locs hH => ?_)
          obtain ⟨r_26, hw_27, hf⟩ := q_biE hf
          refine q_cS (As := [.long r_24]) (rest := [.long (1000 : Int64), .long (2147483647 : Int64)]) (st1 := [.long r_26, .long (1000 : Int64), .long (2147483647 : Int64)]) E hH (tJ9_abs_067f4 l D cA z0 Z M r_24 r_26 hw_27) mw_J9_abs_067f4 mi_J9_abs_067f4 kM_X1_46 hcc rfl rfl rfl hl.1 rfl rfl (Nat.le_of_ble_eq_true rfl) ⟨Nat.le_trans (by decide) hR.1, Nat.le_trans (by decide) hR.2⟩ dX1_width_90 (fun H locs hH => ?_)
          refine lv_lmul hx hb dX1_width_93 ?_
          refine lv_lload_n hx hb dX1_width_94 rfl (lv_at hl 0 rfl) ?_
          obtain ⟨hz_28, hf⟩ := q_gdE hf
          refine lv_ldiv hx hb dX1_width_95 (by simpa using hz_28) ?_
          obtain ⟨r_29, hw_30, hf⟩ := q_biE hf
          refine q_cS (As := [.long (2147483647 : Int64), .long (((1000 : Int64) * r_26) / v3_22)]) (rest := []) (st1 := [.long r_29]) E hH (tJ9_min_f86c9 l D cA z0 Z M (2147483647 : Int64) (((1000 : Int64) * r_26) / v3_22) r_29 hw_30) mw_J9_min_f86c9 mi_J9_min_f86c9 kM_X1_52 hcc rfl rfl rfl hl.1 rfl rfl (Nat.le_of_ble_eq_true rfl) ⟨Nat.le_trans (by decide) hR.1, Nat.le_trans (by decide) hR.2⟩ dX1_width_96 (fun H locs hH => ?_)
          refine lv_l2i hx hb dX1_width_99 rfl ?_
          cases hf
          exact q_iret E hH dX1_width_100
        · replace hf := q_ifF cc_31 hf
          clear cc_31
          refine lv_bipush (v := -2) hx hb dX1_width_75 (by decide) ?_
          cases hf
          exact q_iret E hH dX1_width_77
      · replace hf := q_ifT cc_32 hf
        clear cc_32
        exact bX1_width_38 E hR hcc h Z M _ _ _ _ hf hH (lv_sub hl [] rfl)
  · replace hf := q_ifF cc_34 hf
    clear cc_34
    refine lv_iconst (v := -1) hx hb dX1_width_8 (by decide) ?_
    cases hf
    exact q_iret E hH dX1_width_9
set_option maxRecDepth 100000 in
theorem tX1_width (l : Launch) (D : va_G) (cA : Nat → ClassId) (z0 : Nat) (h : Nat) (Z : q_Z) (M : q_C) (r : Int32) (hf : fX1_width h Z M = some r) : q_Ct l D cA z0 yX1_width cX1_width 5 (some .int) 4 90 [.ref h] Z M (some (.int r)) Z M 0 0 := by
  (refine q_start (plainFor_of_name (by decide)) (Nat.le_of_ble_eq_true rfl) (fun p e s m below meth c H ls E hH hl => ?_); exact bX1_width_0 E ⟨Nat.le_refl _, Nat.le_refl _⟩ ⟨Nat.le_refl _, Nat.le_refl _⟩ h Z M H [] ls r hf hH hl)
def fX1_wayOf_b18 (h : Nat) (s0 : Int32) (Z : q_Z) (M : q_C) : Option (Int32) :=
  some s0
set_option maxHeartbeats 4000000 in
set_option maxRecDepth 100000 in
theorem bX1_wayOf_18 {cells slots : Nat} (E : q_E p s m meth c cX1_wayOf 2 RX1 (some .int) "wayOf" D cA) (hR : 1 ≤ R.frames ∧ 21 ≤ R.locals) (hcc : cells ≤ R.cells ∧ slots ≤ R.slots) (h : Nat) (s0 : Int32) (Z : q_Z) (M : q_C) (H : Heap) (locs : List Loc) (ls : Array Slot) (r : Int32) (hf : fX1_wayOf_b18 h s0 Z M = some r) (hH : q_Hh D cA z0 s Z M H locs) (hl : lv_has ls 2 [])  : W p l e R s m args below meth c H locs cells slots (MQ below (q_Q D cA z0 (some (.int r)) Z M) args s cells slots (fun q => z0 ≤ q)) (F0 m 18 ls [.int s0]) := by
  have hx := E.1
  have hb := E.2.1
  have hown := E.2.2.2.1
  have hT := E.2.2.2.2.2.2.2.1
  unfold fX1_wayOf_b18 at hf
  cases hf
  exact q_iret E hH dX1_wayOf_18
def fX1_wayOf (h : Nat) (v1 : Int32) (Z : q_Z) (M : q_C) : Option (Int32) :=
  q_gd (zK Z h == 11) <|
  Option.bind (fX1_isHeld h v1 Z M) fun r_2 =>
  if r_2 = 0 then
    fX1_wayOf_b18 h (-1 : Int32) Z M
  else
    Option.bind (gR M h 0) fun a_4 =>
    q_gd (q_ok Z a_4 1 v1) <|
    fX1_wayOf_b18 h (gI M a_4 v1.toNatClampNeg) Z M
set_option maxHeartbeats 4000000 in
set_option maxRecDepth 100000 in
theorem bX1_wayOf_0 {cells slots : Nat} (E : q_E p s m meth c cX1_wayOf 2 RX1 (some .int) "wayOf" D cA) (hR : 1 ≤ R.frames ∧ 21 ≤ R.locals) (hcc : cells ≤ R.cells ∧ slots ≤ R.slots) (h : Nat) (v1 : Int32) (Z : q_Z) (M : q_C) (H : Heap) (locs : List Loc) (ls : Array Slot) (r : Int32) (hf : fX1_wayOf h v1 Z M = some r) (hH : q_Hh D cA z0 s Z M H locs) (hl : lv_has ls 2 [(0, .ref h), (1, .int v1)])  : W p l e R s m args below meth c H locs cells slots (MQ below (q_Q D cA z0 (some (.int r)) Z M) args s cells slots (fun q => z0 ≤ q)) (F0 m 0 ls []) := by
  have hx := E.1
  have hb := E.2.1
  have hown := E.2.2.2.1
  have hT := E.2.2.2.2.2.2.2.1
  unfold fX1_wayOf at hf
  refine lv_aload_n hx hb dX1_wayOf_0 rfl (lv_at hl 0 rfl) ?_
  refine lv_iload_n hx hb dX1_wayOf_1 rfl (lv_at hl 1 rfl) ?_
  obtain ⟨hk_1, hf⟩ := q_gdE hf
  have hk_1 := q_keq hk_1
  obtain ⟨r_2, hw_3, hf⟩ := q_biE hf
  refine q_cV (As := [.int v1]) (rest := []) (st1 := [.int r_2]) E hH (tX1_isHeld l D cA z0 h v1 Z M r_2 hw_3) mw_X1_isHeld mi_X1_isHeld (ci := 1) rfl ms_X1_isHeld kM_X1_26 hk_1 hcc rfl rfl rfl hl.1 rfl rfl (Nat.le_of_ble_eq_true rfl) ⟨Nat.le_trans (by decide) hR.1, Nat.le_trans (by decide) hR.2⟩ dX1_wayOf_2 (fun H locs hH => ?_)
  refine lv_if_eq (tgt := 17) hx hb dX1_wayOf_5 (by decide) (fun cc_7 => ?_) (fun cc_7 => ?_)
  · replace hf := q_ifT cc_7 hf
    clear cc_7
    refine lv_iconst (v := -1) hx hb dX1_wayOf_17 (by decide) ?_
    exact bX1_wayOf_18 E hR hcc h (-1 : Int32) Z M _ _ _ _ hf hH (lv_sub hl [] rfl)
  · replace hf := q_ifF cc_7 hf
    clear cc_7
    refine lv_aload_n hx hb dX1_wayOf_8 rfl (lv_at hl 0 rfl) ?_
    refine q_getR E hH (ci := 1) rfl 0 (by decide) kF_X1_9 (fun _ _ _ => rfl) hk_1 dX1_wayOf_9 ?_
    obtain ⟨a_4, he_5, hf⟩ := q_biE hf
    rw [he_5]
    refine lv_iload_n hx hb dX1_wayOf_12 rfl (lv_at hl 1 rfl) ?_
    obtain ⟨hz_6, hf⟩ := q_gdE hf
    refine q_iaload E hH hz_6 dX1_wayOf_13 ?_
    refine lv_goto (tgt := 18) hx hb dX1_wayOf_14 (by decide) ?_
    exact bX1_wayOf_18 E hR hcc h (gI M a_4 v1.toNatClampNeg) Z M _ _ _ _ hf hH (lv_sub hl [] rfl)
set_option maxRecDepth 100000 in
theorem tX1_wayOf (l : Launch) (D : va_G) (cA : Nat → ClassId) (z0 : Nat) (h : Nat) (v1 : Int32) (Z : q_Z) (M : q_C) (r : Int32) (hf : fX1_wayOf h v1 Z M = some r) : q_Ct l D cA z0 yX1_wayOf cX1_wayOf 2 (some .int) 1 21 [.ref h, .int v1] Z M (some (.int r)) Z M 0 0 := by
  (refine q_start (plainFor_of_name (by decide)) (Nat.le_of_ble_eq_true rfl) (fun p e s m below meth c H ls E hH hl => ?_); exact bX1_wayOf_0 E ⟨Nat.le_refl _, Nat.le_refl _⟩ ⟨Nat.le_refl _, Nat.le_refl _⟩ h _ Z M H [] ls r hf hH hl)
def fX5_squareFromSun (h : Nat) (v1 : Int32) (Z : q_Z) (M : q_C) : Option (Int64) :=
  q_gd (zK Z h == 15) <|
  Option.bind (fX5_xAt h v1 Z M) fun r_2 =>
  q_nm r_2.toInt64 fun v2_4 =>
  Option.bind (fX5_yAt h v1 Z M) fun r_6 =>
  q_nm r_6.toInt64 fun v4_8 =>
  some ((v2_4 * v2_4) + (v4_8 * v4_8))
set_option maxHeartbeats 4000000 in
set_option maxRecDepth 100000 in
theorem bX5_squareFromSun_0 {cells slots : Nat} (E : q_E p s m meth c cX5_squareFromSun 6 RX5 (some .long) "squareFromSun" D cA) (hR : 2 ≤ R.frames ∧ 43 ≤ R.locals) (hcc : cells ≤ R.cells ∧ slots ≤ R.slots) (h : Nat) (v1 : Int32) (Z : q_Z) (M : q_C) (H : Heap) (locs : List Loc) (ls : Array Slot) (r : Int64) (hf : fX5_squareFromSun h v1 Z M = some r) (hH : q_Hh D cA z0 s Z M H locs) (hl : lv_has ls 6 [(0, .ref h), (1, .int v1)])  : W p l e R s m args below meth c H locs cells slots (MQ below (q_Q D cA z0 (some (.long r)) Z M) args s cells slots (fun q => z0 ≤ q)) (F0 m 0 ls []) := by
  have hx := E.1
  have hb := E.2.1
  have hown := E.2.2.2.1
  have hT := E.2.2.2.2.2.2.2.1
  unfold fX5_squareFromSun at hf
  refine lv_aload_n hx hb dX5_squareFromSun_0 rfl (lv_at hl 0 rfl) ?_
  refine lv_iload_n hx hb dX5_squareFromSun_1 rfl (lv_at hl 1 rfl) ?_
  obtain ⟨hk_1, hf⟩ := q_gdE hf
  have hk_1 := q_keq hk_1
  obtain ⟨r_2, hw_3, hf⟩ := q_biE hf
  refine q_cV (As := [.int v1]) (rest := []) (st1 := [.int r_2]) E hH (tX5_xAt l D cA z0 h v1 Z M r_2 hw_3) mw_X5_xAt mi_X5_xAt (ci := 5) rfl ms_X5_xAt kM_X5_76 hk_1 hcc rfl rfl rfl hl.1 rfl rfl (Nat.le_of_ble_eq_true rfl) ⟨Nat.le_trans (by decide) hR.1, Nat.le_trans (by decide) hR.2⟩ dX5_squareFromSun_2 (fun H locs hH => ?_)
  refine lv_i2l hx hb dX5_squareFromSun_5 rfl ?_
  refine lv_topl (fun v2_4 hn_5 => ?_)
  replace hf := q_nmE hn_5 hf
  clear hn_5
  refine lv_lstore_n (lv' := [(2, .long v2_4), (0, .ref h), (1, .int v1)]) hx hb dX5_squareFromSun_6 rfl hl (by decide) rfl (fun ls hl => ?_)
  refine lv_aload_n hx hb dX5_squareFromSun_7 rfl (lv_at hl 1 rfl) ?_
  refine lv_iload_n hx hb dX5_squareFromSun_8 rfl (lv_at hl 2 rfl) ?_
  obtain ⟨r_6, hw_7, hf⟩ := q_biE hf
  refine q_cV (As := [.int v1]) (rest := []) (st1 := [.int r_6]) E hH (tX5_yAt l D cA z0 h v1 Z M r_6 hw_7) mw_X5_yAt mi_X5_yAt (ci := 5) rfl ms_X5_yAt kM_X5_80 hk_1 hcc rfl rfl rfl hl.1 rfl rfl (Nat.le_of_ble_eq_true rfl) ⟨Nat.le_trans (by decide) hR.1, Nat.le_trans (by decide) hR.2⟩ dX5_squareFromSun_9 (fun H locs hH => ?_)
  refine lv_i2l hx hb dX5_squareFromSun_12 rfl ?_
  refine lv_topl (fun v4_8 hn_9 => ?_)
  replace hf := q_nmE hn_9 hf
  clear hn_9
  refine lv_lstore (lv' := [(4, .long v4_8), (2, .long v2_4), (0, .ref h), (1, .int v1)]) hx hb dX5_squareFromSun_13 hl (by decide) rfl (fun ls hl => ?_)
  refine lv_lload_n hx hb dX5_squareFromSun_15 rfl (lv_at hl 1 rfl) ?_
  refine lv_lload_n hx hb dX5_squareFromSun_16 rfl (lv_at hl 1 rfl) ?_
  refine lv_lmul hx hb dX5_squareFromSun_17 ?_
  refine lv_lload hx hb dX5_squareFromSun_18 (lv_at hl 0 rfl) ?_
  refine lv_lload hx hb dX5_squareFromSun_20 (lv_at hl 0 rfl) ?_
  refine lv_lmul hx hb dX5_squareFromSun_22 ?_
  refine lv_ladd hx hb dX5_squareFromSun_23 ?_
  cases hf
  exact q_lret E hH dX5_squareFromSun_24
set_option maxRecDepth 100000 in
theorem tX5_squareFromSun (l : Launch) (D : va_G) (cA : Nat → ClassId) (z0 : Nat) (h : Nat) (v1 : Int32) (Z : q_Z) (M : q_C) (r : Int64) (hf : fX5_squareFromSun h v1 Z M = some r) : q_Ct l D cA z0 yX5_squareFromSun cX5_squareFromSun 6 (some .long) 2 43 [.ref h, .int v1] Z M (some (.long r)) Z M 0 0 := by
  (refine q_start (plainFor_of_name (by decide)) (Nat.le_of_ble_eq_true rfl) (fun p e s m below meth c H ls E hH hl => ?_); exact bX5_squareFromSun_0 E ⟨Nat.le_refl _, Nat.le_refl _⟩ ⟨Nat.le_refl _, Nat.le_refl _⟩ h _ Z M H [] ls r hf hH hl)
def fX5_isPass_b35 (h : Nat) (s0 : Int32) (Z : q_Z) (M : q_C) : Option (Int32) :=
  q_gd (decide (s0 = 0) || decide (s0 = 1)) <|
  some s0
set_option maxHeartbeats 4000000 in
set_option maxRecDepth 100000 in
theorem bX5_isPass_35 {cells slots : Nat} (E : q_E p s m meth c cX5_isPass 4 RX5 (some .boolean) "isPass" D cA) (hR : 3 ≤ R.frames ∧ 68 ≤ R.locals) (hcc : cells ≤ R.cells ∧ slots ≤ R.slots) (h : Nat) (s0 : Int32) (Z : q_Z) (M : q_C) (H : Heap) (locs : List Loc) (ls : Array Slot) (r : Int32) (hf : fX5_isPass_b35 h s0 Z M = some r) (hH : q_Hh D cA z0 s Z M H locs) (hl : lv_has ls 4 [])  : W p l e R s m args below meth c H locs cells slots (MQ below (q_Q D cA z0 (some (.int r)) Z M) args s cells slots (fun q => z0 ≤ q)) (F0 m 35 ls [.int s0]) := by
  have hx := E.1
  have hb := E.2.1
  have hown := E.2.2.2.1
  have hT := E.2.2.2.2.2.2.2.1
  unfold fX5_isPass_b35 at hf
  obtain ⟨hz_6, hf⟩ := q_gdE hf
  cases hf
  exact q_zret E hH hz_6 dX5_isPass_35
def fX5_isPass_b34 (h : Nat) (Z : q_Z) (M : q_C) : Option (Int32) :=
  fX5_isPass_b35 h (0 : Int32) Z M
set_option maxHeartbeats 4000000 in
set_option maxRecDepth 100000 in
theorem bX5_isPass_34 {cells slots : Nat} (E : q_E p s m meth c cX5_isPass 4 RX5 (some .boolean) "isPass" D cA) (hR : 3 ≤ R.frames ∧ 68 ≤ R.locals) (hcc : cells ≤ R.cells ∧ slots ≤ R.slots) (h : Nat) (Z : q_Z) (M : q_C) (H : Heap) (locs : List Loc) (ls : Array Slot) (r : Int32) (hf : fX5_isPass_b34 h Z M = some r) (hH : q_Hh D cA z0 s Z M H locs) (hl : lv_has ls 4 [])  : W p l e R s m args below meth c H locs cells slots (MQ below (q_Q D cA z0 (some (.int r)) Z M) args s cells slots (fun q => z0 ≤ q)) (F0 m 34 ls []) := by
  have hx := E.1
  have hb := E.2.1
  have hown := E.2.2.2.1
  have hT := E.2.2.2.2.2.2.2.1
  unfold fX5_isPass_b34 at hf
  refine lv_iconst (v := 0) hx hb dX5_isPass_34 (by decide) ?_
  exact bX5_isPass_35 E hR hcc h (0 : Int32) Z M _ _ _ _ hf hH (lv_sub hl [] rfl)
def fX5_isPass (h : Nat) (v1 : Int32) (Z : q_Z) (M : q_C) : Option (Int32) :=
  q_gd (zK Z h == 15) <|
  Option.bind (fX5_squareFromSun h v1 Z M) fun r_2 =>
  Option.bind (fX5_squareFromSun h (v1 - (1 : Int32)) Z M) fun r_4 =>
  if r_4 ≤ r_2 then
    fX5_isPass_b34 h Z M
  else
    Option.bind (fX5_squareFromSun h (v1 + (1 : Int32)) Z M) fun r_7 =>
    if r_7 < r_2 then
      fX5_isPass_b34 h Z M
    else
      fX5_isPass_b35 h (1 : Int32) Z M
set_option maxHeartbeats 4000000 in
set_option maxRecDepth 100000 in
theorem bX5_isPass_0 {cells slots : Nat} (E : q_E p s m meth c cX5_isPass 4 RX5 (some .boolean) "isPass" D cA) (hR : 3 ≤ R.frames ∧ 68 ≤ R.locals) (hcc : cells ≤ R.cells ∧ slots ≤ R.slots) (h : Nat) (v1 : Int32) (Z : q_Z) (M : q_C) (H : Heap) (locs : List Loc) (ls : Array Slot) (r : Int32) (hf : fX5_isPass h v1 Z M = some r) (hH : q_Hh D cA z0 s Z M H locs) (hl : lv_has ls 4 [(0, .ref h), (1, .int v1)])  : W p l e R s m args below meth c H locs cells slots (MQ below (q_Q D cA z0 (some (.int r)) Z M) args s cells slots (fun q => z0 ≤ q)) (F0 m 0 ls []) := by
  have hx := E.1
  have hb := E.2.1
  have hown := E.2.2.2.1
  have hT := E.2.2.2.2.2.2.2.1
  unfold fX5_isPass at hf
  refine lv_aload_n hx hb dX5_isPass_0 rfl (lv_at hl 0 rfl) ?_
  refine lv_iload_n hx hb dX5_isPass_1 rfl (lv_at hl 1 rfl) ?_
  obtain ⟨hk_1, hf⟩ := q_gdE hf
  have hk_1 := q_keq hk_1
  obtain ⟨r_2, hw_3, hf⟩ := q_biE hf
  refine q_cV (As := [.int v1]) (rest := []) (st1 := [.long r_2]) E hH (tX5_squareFromSun l D cA z0 h v1 Z M r_2 hw_3) mw_X5_squareFromSun mi_X5_squareFromSun (ci := 5) rfl ms_X5_squareFromSun kM_X5_83 hk_1 hcc rfl rfl rfl hl.1 rfl rfl (Nat.le_of_ble_eq_true rfl) ⟨Nat.le_trans (by decide) hR.1, Nat.le_trans (by decide) hR.2⟩ dX5_isPass_2 (fun H locs hH => ?_)
  refine lv_lstore_n (lv' := [(2, .long r_2), (0, .ref h), (1, .int v1)]) hx hb dX5_isPass_5 rfl hl (by decide) rfl (fun ls hl => ?_)
  refine lv_lload_n hx hb dX5_isPass_6 rfl (lv_at hl 0 rfl) ?_
  refine lv_aload_n hx hb dX5_isPass_7 rfl (lv_at hl 1 rfl) ?_
  refine lv_iload_n hx hb dX5_isPass_8 rfl (lv_at hl 2 rfl) ?_
  refine lv_iconst (v := 1) hx hb dX5_isPass_9 (by decide) ?_
  refine lv_isub hx hb dX5_isPass_10 ?_
  obtain ⟨r_4, hw_5, hf⟩ := q_biE hf
  refine q_cV (As := [.int (v1 - (1 : Int32))]) (rest := [.long r_2]) (st1 := [.long r_4, .long r_2]) E hH (tX5_squareFromSun l D cA z0 h (v1 - (1 : Int32)) Z M r_4 hw_5) mw_X5_squareFromSun mi_X5_squareFromSun (ci := 5) rfl ms_X5_squareFromSun kM_X5_83 hk_1 hcc rfl rfl rfl hl.1 rfl rfl (Nat.le_of_ble_eq_true rfl) ⟨Nat.le_trans (by decide) hR.1, Nat.le_trans (by decide) hR.2⟩ dX5_isPass_11 (fun H locs hH => ?_)
  refine q_lcmp_ge (pc1 := 15) (tgt := 34) hx hb dX5_isPass_14 rfl dX5_isPass_15 (by decide) (fun cc_10 => ?_) (fun cc_10 => ?_)
  · replace hf := q_ifT cc_10 hf
    clear cc_10
    exact bX5_isPass_34 E hR hcc h Z M _ _ _ _ hf hH (lv_sub hl [] rfl)
  · replace hf := q_ifF cc_10 hf
    clear cc_10
    refine lv_lload_n hx hb dX5_isPass_18 rfl (lv_at hl 0 rfl) ?_
    refine lv_aload_n hx hb dX5_isPass_19 rfl (lv_at hl 1 rfl) ?_
    refine lv_iload_n hx hb dX5_isPass_20 rfl (lv_at hl 2 rfl) ?_
    refine lv_iconst (v := 1) hx hb dX5_isPass_21 (by decide) ?_
    refine lv_iadd hx hb dX5_isPass_22 ?_
    obtain ⟨r_7, hw_8, hf⟩ := q_biE hf
    refine q_cV (As := [.int (v1 + (1 : Int32))]) (rest := [.long r_2]) (st1 := [.long r_7, .long r_2]) E hH (tX5_squareFromSun l D cA z0 h (v1 + (1 : Int32)) Z M r_7 hw_8) mw_X5_squareFromSun mi_X5_squareFromSun (ci := 5) rfl ms_X5_squareFromSun kM_X5_83 hk_1 hcc rfl rfl rfl hl.1 rfl rfl (Nat.le_of_ble_eq_true rfl) ⟨Nat.le_trans (by decide) hR.1, Nat.le_trans (by decide) hR.2⟩ dX5_isPass_23 (fun H locs hH => ?_)
    refine q_lcmp_gt (pc1 := 27) (tgt := 34) hx hb dX5_isPass_26 rfl dX5_isPass_27 (by decide) (fun cc_9 => ?_) (fun cc_9 => ?_)
    · replace hf := q_ifT cc_9 hf
      clear cc_9
      exact bX5_isPass_34 E hR hcc h Z M _ _ _ _ hf hH (lv_sub hl [] rfl)
    · replace hf := q_ifF cc_9 hf
      clear cc_9
      refine lv_iconst (v := 1) hx hb dX5_isPass_30 (by decide) ?_
      refine lv_goto (tgt := 35) hx hb dX5_isPass_31 (by decide) ?_
      exact bX5_isPass_35 E hR hcc h (1 : Int32) Z M _ _ _ _ hf hH (lv_sub hl [] rfl)
set_option maxRecDepth 100000 in
theorem tX5_isPass (l : Launch) (D : va_G) (cA : Nat → ClassId) (z0 : Nat) (h : Nat) (v1 : Int32) (Z : q_Z) (M : q_C) (r : Int32) (hf : fX5_isPass h v1 Z M = some r) : q_Ct l D cA z0 yX5_isPass cX5_isPass 4 (some .boolean) 3 68 [.ref h, .int v1] Z M (some (.int r)) Z M 0 0 := by
  (refine q_start (plainFor_of_name (by decide)) (Nat.le_of_ble_eq_true rfl) (fun p e s m below meth c H ls E hH hl => ?_); exact bX5_isPass_0 E ⟨Nat.le_refl _, Nat.le_refl _⟩ ⟨Nat.le_refl _, Nat.le_refl _⟩ h _ Z M H [] ls r hf hH hl)
def fX5_turnTime_b47 (h : Nat) (v1 : Int32) (v2 : Int32) (Z : q_Z) (M : q_C) : Option ((Int32 × Int32) ⊕ ((Int32 × Int32) ⊕ Unit)) :=
  q_nm (v2 + (1 : Int32)) fun v2_8 =>
  some (Sum.inl (v1, v2_8))
set_option maxHeartbeats 4000000 in
set_option maxRecDepth 100000 in
theorem bX5_turnTime_47 {cells slots : Nat} {Q : State → Prop} (E : q_E p s m meth c cX5_turnTime 3 RX5 (some .int) "turnTime" D cA) (hR : 4 ≤ R.frames ∧ 91 ≤ R.locals) (hcc : cells ≤ R.cells ∧ slots ≤ R.slots) (h : Nat) (v1 : Int32) (v2 : Int32) (Z : q_Z) (M : q_C) (H : Heap) (locs : List Loc) (ls : Array Slot) (o : (Int32 × Int32) ⊕ ((Int32 × Int32) ⊕ Unit)) (hf : fX5_turnTime_b47 h v1 v2 Z M = some o) (hH : q_Hh D cA z0 s Z M H locs) (hl : lv_has ls 3 [(0, .ref h), (1, .int v1), (2, .int v2)]) (kb : ∀ (w1 : Int32) (w2 : Int32) (H : Heap) (locs : List Loc) (ls : Array Slot), Sum.inl (w1, w2) = o → q_Hh D cA z0 s Z M H locs → lv_has ls 3 [(0, .ref h), (1, .int w1), (2, .int w2)] → W p l e R s m args below meth c H locs cells slots Q (F0 m 4 ls [])) (kx0 : ∀ (w1 : Int32) (w2 : Int32) (H : Heap) (locs : List Loc) (ls : Array Slot), Sum.inr (Sum.inl (w1, w2)) = o → q_Hh D cA z0 s Z M H locs → lv_has ls 3 [(1, .int w1), (2, .int w2)] → W p l e R s m args below meth c H locs cells slots Q (F0 m 41 ls [])) (kx1 : ∀  (H : Heap) (locs : List Loc) (ls : Array Slot), Sum.inr (Sum.inr ()) = o → q_Hh D cA z0 s Z M H locs → lv_has ls 3 [] → W p l e R s m args below meth c H locs cells slots Q (F0 m 53 ls [])) : W p l e R s m args below meth c H locs cells slots Q (F0 m 47 ls []) := by
  have hx := E.1
  have hb := E.2.1
  have hown := E.2.2.2.1
  have hT := E.2.2.2.2.2.2.2.1
  unfold fX5_turnTime_b47 at hf
  obtain ⟨v2_8, hn_9⟩ : ∃ y : Int32, y = v2 + (1 : Int32) := ⟨_, rfl⟩
  replace hf := q_nmE hn_9 hf
  refine lv_iinc (v := v2_8) (lv' := [(2, .int v2_8), (0, .ref h), (1, .int v1)]) hx hb dX5_turnTime_47 hl (k := 2) rfl (by rw [hn_9]; rfl) (by decide) rfl (fun ls hl => ?_)
  clear hn_9
  refine lv_goto (tgt := 4) hx hb dX5_turnTime_50 (by decide) ?_
  cases hf
  exact kb v1 v2_8 _ _ _ rfl hH (lv_sub hl [1, 2, 0] rfl)
def fX5_turnTime_L4 (h : Nat) (v1 : Int32) (v2 : Int32) (Z : q_Z) (M : q_C) : Option ((Int32 × Int32) ⊕ ((Int32 × Int32) ⊕ Unit)) :=
  if (300 : Int32) ≤ v2 then
    some (Sum.inr (Sum.inr ()))
  else
    q_gd (zK Z h == 15) <|
    Option.bind (fX5_isThere h (0 : Int32) Z M) fun r_2 =>
    if r_2 = 0 then
      some (Sum.inr (Sum.inr ()))
    else
      Option.bind (fX5_isThere h (v2 + (1 : Int32)) Z M) fun r_4 =>
      if r_4 = 0 then
        some (Sum.inr (Sum.inr ()))
      else
        Option.bind (fX5_isPass h v2 Z M) fun r_6 =>
        if r_6 = 0 then
          fX5_turnTime_b47 h v1 v2 Z M
        else
          if v1 ≤ 0 then
            fX5_turnTime_b47 h v2 v2 Z M
          else
            some (Sum.inr (Sum.inl (v1, v2)))
set_option maxHeartbeats 4000000 in
set_option maxRecDepth 100000 in
theorem lX5_turnTime_4 {cells slots : Nat} {Q : State → Prop} (E : q_E p s m meth c cX5_turnTime 3 RX5 (some .int) "turnTime" D cA) (hR : 4 ≤ R.frames ∧ 91 ≤ R.locals) (hcc : cells ≤ R.cells ∧ slots ≤ R.slots)  (h : Nat) (Z : q_Z) (M : q_C) : ∀ (n : Nat) (v1 : Int32) (v2 : Int32) (H : Heap) (locs : List Loc) (ls : Array Slot) (r : (Int32 × Int32) ⊕ Unit), q_it (fun x => fX5_turnTime_L4 h x.1 x.2 Z M) n (v1, v2) = some r → q_Hh D cA z0 s Z M H locs → lv_has ls 3 [(0, .ref h), (1, .int v1), (2, .int v2)] → (kx0 : ∀ (w1 : Int32) (w2 : Int32) (H : Heap) (locs : List Loc) (ls : Array Slot), (Sum.inl (w1, w2)) = r → q_Hh D cA z0 s Z M H locs → lv_has ls 3 [(1, .int w1), (2, .int w2)] → W p l e R s m args below meth c H locs cells slots Q (F0 m 41 ls [])) → (kx1 : ∀  (H : Heap) (locs : List Loc) (ls : Array Slot), (Sum.inr ()) = r → q_Hh D cA z0 s Z M H locs → lv_has ls 3 [] → W p l e R s m args below meth c H locs cells slots Q (F0 m 53 ls [])) → W p l e R s m args below meth c H locs cells slots Q (F0 m 4 ls []) := by
  have hx := E.1
  have hb := E.2.1
  have hown := E.2.2.2.1
  have hT := E.2.2.2.2.2.2.2.1
  intro n
  induction n with
  | zero =>
    intro v1 v2 H locs ls r hf
    cases hf
  | succ n ih =>
    intro v1 v2 H locs ls r hf hH hl ky0 ky1
    obtain ⟨n1, o, hn, hf, ho⟩ := q_itE hf
    cases hn
    have hf : fX5_turnTime_L4 h v1 v2 Z M = some o := hf
    have kb : ∀ (w1 : Int32) (w2 : Int32) (H : Heap) (locs : List Loc) (ls : Array Slot), Sum.inl (w1, w2) = o → q_Hh D cA z0 s Z M H locs → lv_has ls 3 [(0, .ref h), (1, .int w1), (2, .int w2)] → W p l e R s m args below meth c H locs cells slots Q (F0 m 4 ls []) := by
      intro w1 w2 H locs ls e hH hl
      subst e
      exact ih w1 w2 H locs ls r ho hH hl ky0 ky1
    have kx0 : ∀ (w1 : Int32) (w2 : Int32) (H : Heap) (locs : List Loc) (ls : Array Slot), Sum.inr (Sum.inl (w1, w2)) = o → q_Hh D cA z0 s Z M H locs → lv_has ls 3 [(1, .int w1), (2, .int w2)] → W p l e R s m args below meth c H locs cells slots Q (F0 m 41 ls []) := by
      intro w1 w2 H locs ls e hH hl
      subst e
      exact ky0 w1 w2 H locs ls ho hH hl
    have kx1 : ∀  (H : Heap) (locs : List Loc) (ls : Array Slot), Sum.inr (Sum.inr ()) = o → q_Hh D cA z0 s Z M H locs → lv_has ls 3 [] → W p l e R s m args below meth c H locs cells slots Q (F0 m 53 ls []) := by
      intro  H locs ls e hH hl
      subst e
      exact ky1  H locs ls ho hH hl
    unfold fX5_turnTime_L4 at hf
    refine lv_iload_n hx hb dX5_turnTime_4 rfl (lv_at hl 2 rfl) ?_
    refine lv_sipush (v := 300) hx hb dX5_turnTime_5 (by decide) ?_
    refine lv_icmp_ge (tgt := 53) hx hb dX5_turnTime_8 (by decide) (fun cc_14 => ?_) (fun cc_14 => ?_)
    · replace hf := q_ifT cc_14 hf
      clear cc_14
      cases hf
      exact kx1  _ _ _ rfl hH (lv_sub hl [] rfl)
    · replace hf := q_ifF cc_14 hf
      clear cc_14
      refine lv_aload_n hx hb dX5_turnTime_11 rfl (lv_at hl 0 rfl) ?_
      refine lv_iconst (v := 0) hx hb dX5_turnTime_12 (by decide) ?_
      obtain ⟨hk_1, hf⟩ := q_gdE hf
      have hk_1 := q_keq hk_1
      obtain ⟨r_2, hw_3, hf⟩ := q_biE hf
      refine q_cV (As := [.int (0 : Int32)]) (rest := []) (st1 := [.int r_2]) E hH (tX5_isThere l D cA z0 h (0 : Int32) Z M r_2 hw_3) mw_X5_isThere mi_X5_isThere (ci := 5) rfl ms_X5_isThere kM_X5_86 hk_1 hcc rfl rfl rfl hl.1 rfl rfl (Nat.le_of_ble_eq_true rfl) ⟨Nat.le_trans (by decide) hR.1, Nat.le_trans (by decide) hR.2⟩ dX5_turnTime_13 (fun H locs hH => ?_)
      refine lv_if_eq (tgt := 53) hx hb dX5_turnTime_16 (by decide) (fun cc_13 => ?_) (fun cc_13 => ?_)
      · replace hf := q_ifT cc_13 hf
        clear cc_13
        cases hf
        exact kx1  _ _ _ rfl hH (lv_sub hl [] rfl)
      · replace hf := q_ifF cc_13 hf
        clear cc_13
        refine lv_aload_n hx hb dX5_turnTime_19 rfl (lv_at hl 0 rfl) ?_
        refine lv_iload_n hx hb dX5_turnTime_20 rfl (lv_at hl 2 rfl) ?_
        refine lv_iconst (v := 1) hx hb dX5_turnTime_21 (by decide) ?_
        refine lv_iadd hx hb dX5_turnTime_22 ?_
        obtain ⟨r_4, hw_5, hf⟩ := q_biE hf
        refine q_cV (As := [.int (v2 + (1 : Int32))]) (rest := []) (st1 := [.int r_4]) E hH (tX5_isThere l D cA z0 h (v2 + (1 : Int32)) Z M r_4 hw_5) mw_X5_isThere mi_X5_isThere (ci := 5) rfl ms_X5_isThere kM_X5_86 hk_1 hcc rfl rfl rfl hl.1 rfl rfl (Nat.le_of_ble_eq_true rfl) ⟨Nat.le_trans (by decide) hR.1, Nat.le_trans (by decide) hR.2⟩ dX5_turnTime_23 (fun H locs hH => ?_)
        refine lv_if_eq (tgt := 53) hx hb dX5_turnTime_26 (by decide) (fun cc_12 => ?_) (fun cc_12 => ?_)
        · replace hf := q_ifT cc_12 hf
          clear cc_12
          cases hf
          exact kx1  _ _ _ rfl hH (lv_sub hl [] rfl)
        · replace hf := q_ifF cc_12 hf
          clear cc_12
          refine lv_aload_n hx hb dX5_turnTime_29 rfl (lv_at hl 0 rfl) ?_
          refine lv_iload_n hx hb dX5_turnTime_30 rfl (lv_at hl 2 rfl) ?_
          obtain ⟨r_6, hw_7, hf⟩ := q_biE hf
          refine q_cV (As := [.int v2]) (rest := []) (st1 := [.int r_6]) E hH (tX5_isPass l D cA z0 h v2 Z M r_6 hw_7) mw_X5_isPass mi_X5_isPass (ci := 5) rfl ms_X5_isPass kM_X5_90 hk_1 hcc rfl rfl rfl hl.1 rfl rfl (Nat.le_of_ble_eq_true rfl) ⟨Nat.le_trans (by decide) hR.1, Nat.le_trans (by decide) hR.2⟩ dX5_turnTime_31 (fun H locs hH => ?_)
          refine lv_if_eq (tgt := 47) hx hb dX5_turnTime_34 (by decide) (fun cc_11 => ?_) (fun cc_11 => ?_)
          · replace hf := q_ifT cc_11 hf
            clear cc_11
            exact bX5_turnTime_47 E hR hcc h v1 v2 Z M _ _ _ _ hf hH (lv_sub hl [0, 1, 2] rfl) kb kx0 kx1
          · replace hf := q_ifF cc_11 hf
            clear cc_11
            refine lv_iload_n hx hb dX5_turnTime_37 rfl (lv_at hl 1 rfl) ?_
            refine lv_if_le (tgt := 45) hx hb dX5_turnTime_38 (by decide) (fun cc_10 => ?_) (fun cc_10 => ?_)
            · replace hf := q_ifT cc_10 hf
              clear cc_10
              refine lv_iload_n hx hb dX5_turnTime_45 rfl (lv_at hl 2 rfl) ?_
              refine lv_istore_n (lv' := [(1, .int v2), (0, .ref h), (2, .int v2)]) hx hb dX5_turnTime_46 rfl hl (by decide) rfl (fun ls hl => ?_)
              exact bX5_turnTime_47 E hR hcc h v2 v2 Z M _ _ _ _ hf hH (lv_sub hl [1, 0, 2] rfl) kb kx0 kx1
            · replace hf := q_ifF cc_10 hf
              clear cc_10
              cases hf
              exact kx0 v1 v2 _ _ _ rfl hH (lv_sub hl [1, 2] rfl)
def fX5_turnTime_b53 (h : Nat) (Z : q_Z) (M : q_C) : Option (Int32) :=
  some (0 : Int32)
set_option maxHeartbeats 4000000 in
set_option maxRecDepth 100000 in
theorem bX5_turnTime_53 {cells slots : Nat} (E : q_E p s m meth c cX5_turnTime 3 RX5 (some .int) "turnTime" D cA) (hR : 4 ≤ R.frames ∧ 91 ≤ R.locals) (hcc : cells ≤ R.cells ∧ slots ≤ R.slots) (h : Nat) (Z : q_Z) (M : q_C) (H : Heap) (locs : List Loc) (ls : Array Slot) (r : Int32) (hf : fX5_turnTime_b53 h Z M = some r) (hH : q_Hh D cA z0 s Z M H locs) (hl : lv_has ls 3 [])  : W p l e R s m args below meth c H locs cells slots (MQ below (q_Q D cA z0 (some (.int r)) Z M) args s cells slots (fun q => z0 ≤ q)) (F0 m 53 ls []) := by
  have hx := E.1
  have hb := E.2.1
  have hown := E.2.2.2.1
  have hT := E.2.2.2.2.2.2.2.1
  unfold fX5_turnTime_b53 at hf
  refine lv_iconst (v := 0) hx hb dX5_turnTime_53 (by decide) ?_
  cases hf
  exact q_iret E hH dX5_turnTime_54
def fX5_turnTime (h : Nat) (Z : q_Z) (M : q_C) : Option (Int32) :=
  Option.bind (q_it (fun x => fX5_turnTime_L4 h x.1 x.2 Z M) q_FU ((0 : Int32), (1 : Int32))) fun r_15 =>
  q_sm r_15 (fun e_17 =>
    q_nm e_17.1 fun v1_18 =>
    q_nm e_17.2 fun v2_19 =>
    some (v2_19 - v1_18)
  ) fun e_20 =>
  fX5_turnTime_b53 h Z M
set_option maxHeartbeats 4000000 in
set_option maxRecDepth 100000 in
theorem bX5_turnTime_0 {cells slots : Nat} (E : q_E p s m meth c cX5_turnTime 3 RX5 (some .int) "turnTime" D cA) (hR : 4 ≤ R.frames ∧ 91 ≤ R.locals) (hcc : cells ≤ R.cells ∧ slots ≤ R.slots) (h : Nat) (Z : q_Z) (M : q_C) (H : Heap) (locs : List Loc) (ls : Array Slot) (r : Int32) (hf : fX5_turnTime h Z M = some r) (hH : q_Hh D cA z0 s Z M H locs) (hl : lv_has ls 3 [(0, .ref h)])  : W p l e R s m args below meth c H locs cells slots (MQ below (q_Q D cA z0 (some (.int r)) Z M) args s cells slots (fun q => z0 ≤ q)) (F0 m 0 ls []) := by
  have hx := E.1
  have hb := E.2.1
  have hown := E.2.2.2.1
  have hT := E.2.2.2.2.2.2.2.1
  unfold fX5_turnTime at hf
  refine lv_iconst (v := 0) hx hb dX5_turnTime_0 (by decide) ?_
  refine lv_istore_n (lv' := [(1, .int (0 : Int32)), (0, .ref h)]) hx hb dX5_turnTime_1 rfl hl (by decide) rfl (fun ls hl => ?_)
  refine lv_iconst (v := 1) hx hb dX5_turnTime_2 (by decide) ?_
  refine lv_istore_n (lv' := [(2, .int (1 : Int32)), (1, .int (0 : Int32)), (0, .ref h)]) hx hb dX5_turnTime_3 rfl hl (by decide) rfl (fun ls hl => ?_)
  obtain ⟨r_15, hr_16, hf⟩ := q_biE hf
  refine lX5_turnTime_4 E hR hcc h Z M q_FU (0 : Int32) (1 : Int32) _ _ _ r_15 hr_16 hH (lv_sub hl [2, 1, 0] rfl) (fun v1_18 v2_19 H locs ls he_21 hH hl => ?_) (fun  H locs ls he_22 hH hl => ?_)
  · subst he_21
    replace hf := q_smL hf
    replace hf := q_nmE (x := v1_18) rfl hf
    replace hf := q_nmE (x := v2_19) rfl hf
    refine lv_iload_n hx hb dX5_turnTime_41 rfl (lv_at hl 1 rfl) ?_
    refine lv_iload_n hx hb dX5_turnTime_42 rfl (lv_at hl 0 rfl) ?_
    refine lv_isub hx hb dX5_turnTime_43 ?_
    cases hf
    exact q_iret E hH dX5_turnTime_44
  · subst he_22
    replace hf := q_smR hf
    exact bX5_turnTime_53 E hR hcc h Z M _ _ _ _ hf hH (lv_sub hl [] rfl)
set_option maxRecDepth 100000 in
theorem tX5_turnTime (l : Launch) (D : va_G) (cA : Nat → ClassId) (z0 : Nat) (h : Nat) (Z : q_Z) (M : q_C) (r : Int32) (hf : fX5_turnTime h Z M = some r) : q_Ct l D cA z0 yX5_turnTime cX5_turnTime 3 (some .int) 4 91 [.ref h] Z M (some (.int r)) Z M 0 0 := by
  (refine q_start (plainFor_of_name (by decide)) (Nat.le_of_ble_eq_true rfl) (fun p e s m below meth c H ls E hH hl => ?_); exact bX5_turnTime_0 E ⟨Nat.le_refl _, Nat.le_refl _⟩ ⟨Nat.le_refl _, Nat.le_refl _⟩ h Z M H [] ls r hf hH hl)
end Q212
