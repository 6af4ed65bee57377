section Q232
variable {p : Program} {l : Launch} {e : Env} {R : Room} {s : State} {m : MethodId} {args : Array Value} {below : List Frame} {meth : Method} {c : Code} {D : va_G} {cA : Nat → ClassId} {z0 : Nat}
def fX7_pull_b34 (s0 : Int64) : Option (Int64) :=
  some s0
set_option maxHeartbeats 4000000 in
set_option maxRecDepth 100000 in
theorem bX7_pull_34 {cells slots : Nat} (E : q_E p s m meth c cX7_pull 8 RX7 (some .long) "pull" D cA) (hR : 1 ≤ R.frames ∧ 25 ≤ R.locals) (hcc : cells ≤ R.cells ∧ slots ≤ R.slots) (Z : q_Z) (M : q_C) (s0 : Int64) (H : Heap) (locs : List Loc) (ls : Array Slot) (r : Int64) (hf : fX7_pull_b34 s0 = some r) (hH : q_Hh D cA z0 s Z M H locs) (hl : lv_has ls 8 [])  : W p l e R s m args below meth c H locs cells slots (MQ below (q_Q D cA z0 (some (.long r)) Z M) args s cells slots (fun q => z0 ≤ q)) (F0 m 34 ls [.long s0]) := by
  have hx := E.1
  have hb := E.2.1
  have hown := E.2.2.2.1
  have hT := E.2.2.2.2.2.2.2.1
  unfold fX7_pull_b34 at hf
  cases hf
  exact q_lret E hH dX7_pull_34
def fX7_pull (v0 : Int64) (v2 : Int64) (v4 : Int64) : Option (Int64) :=
  q_nm ((v2 * v2) + (v4 * v4)) fun v6_1 =>
  if v6_1 = (0 : Int64) then
    fX7_pull_b34 (0 : Int64)
  else
    Option.bind (fX7_root v6_1) fun r_3 =>
    q_gd (!(decide (v6_1 * r_3 = 0))) <|
    fX7_pull_b34 ((v0 * v2) / (v6_1 * r_3))
set_option maxHeartbeats 4000000 in
set_option maxRecDepth 100000 in
theorem bX7_pull_0 {cells slots : Nat} (E : q_E p s m meth c cX7_pull 8 RX7 (some .long) "pull" D cA) (hR : 1 ≤ R.frames ∧ 25 ≤ R.locals) (hcc : cells ≤ R.cells ∧ slots ≤ R.slots) (Z : q_Z) (M : q_C) (v0 : Int64) (v2 : Int64) (v4 : Int64) (H : Heap) (locs : List Loc) (ls : Array Slot) (r : Int64) (hf : fX7_pull v0 v2 v4 = some r) (hH : q_Hh D cA z0 s Z M H locs) (hl : lv_has ls 8 [(0, .long v0), (2, .long v2), (4, .long v4)])  : W p l e R s m args below meth c H locs cells slots (MQ below (q_Q D cA z0 (some (.long r)) Z M) args s cells slots (fun q => z0 ≤ q)) (F0 m 0 ls []) := by
  have hx := E.1
  have hb := E.2.1
  have hown := E.2.2.2.1
  have hT := E.2.2.2.2.2.2.2.1
  unfold fX7_pull at hf
  refine lv_lload_n hx hb dX7_pull_0 rfl (lv_at hl 1 rfl) ?_
  refine lv_lload_n hx hb dX7_pull_1 rfl (lv_at hl 1 rfl) ?_
  refine lv_lmul hx hb dX7_pull_2 ?_
  refine lv_lload hx hb dX7_pull_3 (lv_at hl 2 rfl) ?_
  refine lv_lload hx hb dX7_pull_5 (lv_at hl 2 rfl) ?_
  refine lv_lmul hx hb dX7_pull_7 ?_
  refine lv_ladd hx hb dX7_pull_8 ?_
  refine lv_topl (fun v6_1 hn_2 => ?_)
  replace hf := q_nmE hn_2 hf
  clear hn_2
  refine lv_lstore (lv' := [(6, .long v6_1), (0, .long v0), (2, .long v2), (4, .long v4)]) hx hb dX7_pull_9 hl (by decide) rfl (fun ls hl => ?_)
  refine lv_lload hx hb dX7_pull_11 (lv_at hl 0 rfl) ?_
  refine lv_lconst (v := 0) hx hb dX7_pull_13 (by decide) ?_
  refine q_lcmp_ne (pc1 := 15) (tgt := 22) hx hb dX7_pull_14 rfl dX7_pull_15 (by decide) (fun cc_6 => ?_) (fun cc_6 => ?_)
  · replace hf := q_ifF cc_6 hf
    clear cc_6
    refine lv_lload_n hx hb dX7_pull_22 rfl (lv_at hl 1 rfl) ?_
    refine lv_lload_n hx hb dX7_pull_23 rfl (lv_at hl 2 rfl) ?_
    refine lv_lmul hx hb dX7_pull_24 ?_
    refine lv_lload hx hb dX7_pull_25 (lv_at hl 0 rfl) ?_
    refine lv_lload hx hb dX7_pull_27 (lv_at hl 0 rfl) ?_
    obtain ⟨r_3, hw_4, hf⟩ := q_biE hf
    refine q_cS (As := [.long v6_1]) (rest := [.long v6_1, .long (v0 * v2)]) (st1 := [.long r_3, .long v6_1, .long (v0 * v2)]) E hH (tX7_root l D cA z0 Z M v6_1 r_3 hw_4) mw_X7_root mi_X7_root kM_X7_123 hcc rfl rfl rfl hl.1 rfl rfl (Nat.le_of_ble_eq_true rfl) ⟨Nat.le_trans (by decide) hR.1, Nat.le_trans (by decide) hR.2⟩ dX7_pull_29 (fun H locs hH => ?_)
    refine lv_lmul hx hb dX7_pull_32 ?_
    obtain ⟨hz_5, hf⟩ := q_gdE hf
    refine lv_ldiv hx hb dX7_pull_33 (by simpa using hz_5) ?_
    exact bX7_pull_34 E hR hcc Z M ((v0 * v2) / (v6_1 * r_3)) _ _ _ _ hf hH (lv_sub hl [] rfl)
  · replace hf := q_ifT cc_6 hf
    clear cc_6
    refine lv_lconst (v := 0) hx hb dX7_pull_18 (by decide) ?_
    refine lv_goto (tgt := 34) hx hb dX7_pull_19 (by decide) ?_
    exact bX7_pull_34 E hR hcc Z M (0 : Int64) _ _ _ _ hf hH (lv_sub hl [] rfl)
set_option maxRecDepth 100000 in
theorem tX7_pull (l : Launch) (D : va_G) (cA : Nat → ClassId) (z0 : Nat) (Z : q_Z) (M : q_C) (v0 : Int64) (v2 : Int64) (v4 : Int64) (r : Int64) (hf : fX7_pull v0 v2 v4 = some r) : q_Ct l D cA z0 yX7_pull cX7_pull 8 (some .long) 1 25 [.long v0, .long v2, .long v4] Z M (some (.long r)) Z M 0 0 := by
  (refine q_start (plainFor_of_name (by decide)) (Nat.le_of_ble_eq_true rfl) (fun p e s m below meth c H ls E hH hl => ?_); exact bX7_pull_0 E ⟨Nat.le_refl _, Nat.le_refl _⟩ ⟨Nat.le_refl _, Nat.le_refl _⟩ Z M _ _ _ H [] ls r hf hH hl)
def fX7_pulls (h : Nat) (v1 : Int32) (v2 : Int32) (Z : q_Z) (M : q_C) : Option (q_C) :=
  q_gd (zK Z h == 17) <|
  Option.bind (fX7_now h (1 : Int32) v1 (0 : Int32) Z M) fun r_2 =>
  q_nm (r_2.toInt64 - (gJ M h 22)) fun v3_4 =>
  Option.bind (fX7_now h (1 : Int32) v1 (1 : Int32) Z M) fun r_6 =>
  q_nm (r_6.toInt64 - (gJ M h 23)) fun v5_8 =>
  Option.bind (gR M h 4) fun a_10 =>
  q_gd (q_ok Z a_10 1 (0 : Int32)) <|
  Option.bind (fX7_pull ((gI M a_10 (0 : Int32).toNatClampNeg).toInt64) (-(gJ M h 22)) (-(gJ M h 23))) fun r_13 =>
  Option.bind (gR M h 4) fun a_15 =>
  q_gd (q_ok Z a_15 1 (1 : Int32)) <|
  Option.bind (fX7_pull ((gI M a_15 (1 : Int32).toNatClampNeg).toInt64) v3_4 v5_8) fun r_18 =>
  q_nm (r_13 + r_18) fun v7_20 =>
  Option.bind (gR M h 4) fun a_22 =>
  q_gd (q_ok Z a_22 1 (0 : Int32)) <|
  Option.bind (fX7_pull ((gI M a_22 (0 : Int32).toNatClampNeg).toInt64) (-(gJ M h 23)) (-(gJ M h 22))) fun r_25 =>
  Option.bind (gR M h 4) fun a_27 =>
  q_gd (q_ok Z a_27 1 (1 : Int32)) <|
  Option.bind (fX7_pull ((gI M a_27 (1 : Int32).toNatClampNeg).toInt64) v5_8 v3_4) fun r_30 =>
  q_nm (r_25 + r_30) fun v9_32 =>
  q_nm (sJ M h 24 ((gJ M h 24) + (v2.toInt64 * v7_20))) fun M_34 =>
  q_nm (sJ M_34 h 25 ((gJ M_34 h 25) + (v2.toInt64 * v9_32))) fun M_35 =>
  some M_35
set_option maxHeartbeats 4000000 in
set_option maxRecDepth 100000 in
theorem bX7_pulls_0 {cells slots : Nat} (E : q_E p s m meth c cX7_pulls 11 RX7 none "pulls" D cA) (hR : 2 ≤ R.frames ∧ 52 ≤ R.locals) (hcc : cells ≤ R.cells ∧ slots ≤ R.slots) (h : Nat) (v1 : Int32) (v2 : Int32) (Z : q_Z) (M : q_C) (H : Heap) (locs : List Loc) (ls : Array Slot) (M' : q_C) (hf : fX7_pulls h v1 v2 Z M = some M') (hH : q_Hh D cA z0 s Z M H locs) (hl : lv_has ls 11 [(0, .ref h), (1, .int v1), (2, .int v2)])  : W p l e R s m args below meth c H locs cells slots (MQ below (q_Q D cA z0 none Z M') args s cells slots (fun q => z0 ≤ q)) (F0 m 0 ls []) := by
  have hx := E.1
  have hb := E.2.1
  have hown := E.2.2.2.1
  have hT := E.2.2.2.2.2.2.2.1
  unfold fX7_pulls at hf
  refine lv_aload_n hx hb dX7_pulls_0 rfl (lv_at hl 0 rfl) ?_
  refine lv_iconst (v := 1) hx hb dX7_pulls_1 (by decide) ?_
  refine lv_iload_n hx hb dX7_pulls_2 rfl (lv_at hl 1 rfl) ?_
  refine lv_iconst (v := 0) hx hb dX7_pulls_3 (by decide) ?_
  obtain ⟨hk_1, hf⟩ := q_gdE hf
  have hk_1 := q_keq hk_1
  obtain ⟨r_2, hw_3, hf⟩ := q_biE hf
  refine q_cV (As := [.int (1 : Int32), .int v1, .int (0 : Int32)]) (rest := []) (st1 := [.int r_2]) E hH (tX7_now l D cA z0 h (1 : Int32) v1 (0 : Int32) Z M r_2 hw_3) mw_X7_now mi_X7_now (ci := 7) rfl ms_X7_now kM_X7_133 hk_1 hcc rfl rfl rfl hl.1 rfl rfl (Nat.le_of_ble_eq_true rfl) ⟨Nat.le_trans (by decide) hR.1, Nat.le_trans (by decide) hR.2⟩ dX7_pulls_4 (fun H locs hH => ?_)
  refine lv_i2l hx hb dX7_pulls_7 rfl ?_
  refine lv_aload_n hx hb dX7_pulls_8 rfl (lv_at hl 0 rfl) ?_
  refine q_getJ E hH (ci := 7) rfl 22 (by decide) kF_X7_79 (fun _ _ _ => rfl) hk_1 dX7_pulls_9 ?_
  refine lv_lsub hx hb dX7_pulls_12 ?_
  refine lv_topl (fun v3_4 hn_5 => ?_)
  replace hf := q_nmE hn_5 hf
  clear hn_5
  refine lv_lstore_n (lv' := [(3, .long v3_4), (0, .ref h), (1, .int v1), (2, .int v2)]) hx hb dX7_pulls_13 rfl hl (by decide) rfl (fun ls hl => ?_)
  refine lv_aload_n hx hb dX7_pulls_14 rfl (lv_at hl 1 rfl) ?_
  refine lv_iconst (v := 1) hx hb dX7_pulls_15 (by decide) ?_
  refine lv_iload_n hx hb dX7_pulls_16 rfl (lv_at hl 2 rfl) ?_
  refine lv_iconst (v := 1) hx hb dX7_pulls_17 (by decide) ?_
  obtain ⟨r_6, hw_7, hf⟩ := q_biE hf
  refine q_cV (As := [.int (1 : Int32), .int v1, .int (1 : Int32)]) (rest := []) (st1 := [.int r_6]) E hH (tX7_now l D cA z0 h (1 : Int32) v1 (1 : Int32) Z M r_6 hw_7) mw_X7_now mi_X7_now (ci := 7) rfl ms_X7_now kM_X7_133 hk_1 hcc rfl rfl rfl hl.1 rfl rfl (Nat.le_of_ble_eq_true rfl) ⟨Nat.le_trans (by decide) hR.1, Nat.le_trans (by decide) hR.2⟩ dX7_pulls_18 (fun H locs hH => ?_)
  refine lv_i2l hx hb dX7_pulls_21 rfl ?_
  refine lv_aload_n hx hb dX7_pulls_22 rfl (lv_at hl 1 rfl) ?_
  refine q_getJ E hH (ci := 7) rfl 23 (by decide) kF_X7_83 (fun _ _ _ => rfl) hk_1 dX7_pulls_23 ?_
  refine lv_lsub hx hb dX7_pulls_26 ?_
  refine lv_topl (fun v5_8 hn_9 => ?_)
  replace hf := q_nmE hn_9 hf
  clear hn_9
  refine lv_lstore (lv' := [(5, .long v5_8), (3, .long v3_4), (0, .ref h), (1, .int v1), (2, .int v2)]) hx hb dX7_pulls_27 hl (by decide) rfl (fun ls hl => ?_)
  refine lv_aload_n hx hb dX7_pulls_29 rfl (lv_at hl 2 rfl) ?_
  refine q_getR E hH (ci := 7) rfl 4 (by decide) kF_X7_22 (fun _ _ _ => rfl) hk_1 dX7_pulls_30 ?_
  obtain ⟨a_10, he_11, hf⟩ := q_biE hf
  rw [he_11]
  refine lv_iconst (v := 0) hx hb dX7_pulls_33 (by decide) ?_
  obtain ⟨hz_12, hf⟩ := q_gdE hf
  refine q_iaload E hH hz_12 dX7_pulls_34 ?_
  refine lv_i2l hx hb dX7_pulls_35 rfl ?_
  refine lv_aload_n hx hb dX7_pulls_36 rfl (lv_at hl 2 rfl) ?_
  refine q_getJ E hH (ci := 7) rfl 22 (by decide) kF_X7_79 (fun _ _ _ => rfl) hk_1 dX7_pulls_37 ?_
  refine lv_lneg hx hb dX7_pulls_40 ?_
  refine lv_aload_n hx hb dX7_pulls_41 rfl (lv_at hl 2 rfl) ?_
  refine q_getJ E hH (ci := 7) rfl 23 (by decide) kF_X7_83 (fun _ _ _ => rfl) hk_1 dX7_pulls_42 ?_
  refine lv_lneg hx hb dX7_pulls_45 ?_
  obtain ⟨r_13, hw_14, hf⟩ := q_biE hf
  refine q_cS (As := [.long ((gI M a_10 (0 : Int32).toNatClampNeg).toInt64), .long (-(gJ M h 22)), .long (-(gJ M h 23))]) (rest := []) (st1 := [.long r_13]) E hH (tX7_pull l D cA z0 Z M ((gI M a_10 (0 : Int32).toNatClampNeg).toInt64) (-(gJ M h 22)) (-(gJ M h 23)) r_13 hw_14) mw_X7_pull mi_X7_pull kM_X7_137 hcc rfl rfl rfl hl.1 rfl rfl (Nat.le_of_ble_eq_true rfl) ⟨Nat.le_trans (by decide) hR.1, Nat.le_trans (by decide) hR.2⟩ dX7_pulls_46 (fun H locs hH => ?_)
  refine lv_aload_n hx hb dX7_pulls_49 rfl (lv_at hl 2 rfl) ?_
  refine q_getR E hH (ci := 7) rfl 4 (by decide) kF_X7_22 (fun _ _ _ => rfl) hk_1 dX7_pulls_50 ?_
  obtain ⟨a_15, he_16, hf⟩ := q_biE hf
  rw [he_16]
  refine lv_iconst (v := 1) hx hb dX7_pulls_53 (by decide) ?_
  obtain ⟨hz_17, hf⟩ := q_gdE hf
  refine q_iaload E hH hz_17 dX7_pulls_54 ?_
  refine lv_i2l hx hb dX7_pulls_55 rfl ?_
  refine lv_lload_n hx hb dX7_pulls_56 rfl (lv_at hl 1 rfl) ?_
  refine lv_lload hx hb dX7_pulls_57 (lv_at hl 0 rfl) ?_
  obtain ⟨r_18, hw_19, hf⟩ := q_biE hf
  refine q_cS (As := [.long ((gI M a_15 (1 : Int32).toNatClampNeg).toInt64), .long v3_4, .long v5_8]) (rest := [.long r_13]) (st1 := [.long r_18, .long r_13]) E hH (tX7_pull l D cA z0 Z M ((gI M a_15 (1 : Int32).toNatClampNeg).toInt64) v3_4 v5_8 r_18 hw_19) mw_X7_pull mi_X7_pull kM_X7_137 hcc rfl rfl rfl hl.1 rfl rfl (Nat.le_of_ble_eq_true rfl) ⟨Nat.le_trans (by decide) hR.1, Nat.le_trans (by decide) hR.2⟩ dX7_pulls_59 (fun H locs hH => ?_)
  refine lv_ladd hx hb dX7_pulls_62 ?_
  refine lv_topl (fun v7_20 hn_21 => ?_)
  replace hf := q_nmE hn_21 hf
  clear hn_21
  refine lv_lstore (lv' := [(7, .long v7_20), (5, .long v5_8), (3, .long v3_4), (0, .ref h), (1, .int v1), (2, .int v2)]) hx hb dX7_pulls_63 hl (by decide) rfl (fun ls hl => ?_)
  refine lv_aload_n hx hb dX7_pulls_65 rfl (lv_at hl 3 rfl) ?_
  refine q_getR E hH (ci := 7) rfl 4 (by decide) kF_X7_22 (fun _ _ _ => rfl) hk_1 dX7_pulls_66 ?_
  obtain ⟨a_22, he_23, hf⟩ := q_biE hf
  rw [he_23]
  refine lv_iconst (v := 0) hx hb dX7_pulls_69 (by decide) ?_
  obtain ⟨hz_24, hf⟩ := q_gdE hf
  refine q_iaload E hH hz_24 dX7_pulls_70 ?_
  refine lv_i2l hx hb dX7_pulls_71 rfl ?_
  refine lv_aload_n hx hb dX7_pulls_72 rfl (lv_at hl 3 rfl) ?_
  refine q_getJ E hH (ci := 7) rfl 23 (by decide) kF_X7_83 (fun _ _ _ => rfl) hk_1 dX7_pulls_73 ?_
  refine lv_lneg hx hb dX7_pulls_76 ?_
  refine lv_aload_n hx hb dX7_pulls_77 rfl (lv_at hl 3 rfl) ?_
  refine q_getJ E hH (ci := 7) rfl 22 (by decide) kF_X7_79 (fun _ _ _ => rfl) hk_1 dX7_pulls_78 ?_
  refine lv_lneg hx hb dX7_pulls_81 ?_
  obtain ⟨r_25, hw_26, hf⟩ := q_biE hf
  refine q_cS (As := [.long ((gI M a_22 (0 : Int32).toNatClampNeg).toInt64), .long (-(gJ M h 23)), .long (-(gJ M h 22))]) (rest := []) (st1 := [.long r_25]) E hH (tX7_pull l D cA z0 Z M ((gI M a_22 (0 : Int32).toNatClampNeg).toInt64) (-(gJ M h 23)) (-(gJ M h 22)) r_25 hw_26) mw_X7_pull mi_X7_pull kM_X7_137 hcc rfl rfl rfl hl.1 rfl rfl (Nat.le_of_ble_eq_true rfl) ⟨Nat.le_trans (by decide) hR.1, Nat.le_trans (by decide) hR.2⟩ dX7_pulls_82 (fun H locs hH => ?_)
  refine lv_aload_n hx hb dX7_pulls_85 rfl (lv_at hl 3 rfl) ?_
  refine q_getR E hH (ci := 7) rfl 4 (by decide) kF_X7_22 (fun _ _ _ => rfl) hk_1 dX7_pulls_86 ?_
  obtain ⟨a_27, he_28, hf⟩ := q_biE hf
  rw [he_28]
  refine lv_iconst (v := 1) hx hb dX7_pulls_89 (by decide) ?_
  obtain ⟨hz_29, hf⟩ := q_gdE hf
  refine q_iaload E hH hz_29 dX7_pulls_90 ?_
  refine lv_i2l hx hb dX7_pulls_91 rfl ?_
  refine lv_lload hx hb dX7_pulls_92 (lv_at hl 1 rfl) ?_
  refine lv_lload_n hx hb dX7_pulls_94 rfl (lv_at hl 2 rfl) ?_
  obtain ⟨r_30, hw_31, hf⟩ := q_biE hf
  refine q_cS (As := [.long ((gI M a_27 (1 : Int32).toNatClampNeg).toInt64), .long v5_8, .long v3_4]) (rest := [.long r_25]) (st1 := [.long r_30, .long r_25]) E hH (tX7_pull l D cA z0 Z M ((gI M a_27 (1 : Int32).toNatClampNeg).toInt64) v5_8 v3_4 r_30 hw_31) mw_X7_pull mi_X7_pull kM_X7_137 hcc rfl rfl rfl hl.1 rfl rfl (Nat.le_of_ble_eq_true rfl) ⟨Nat.le_trans (by decide) hR.1, Nat.le_trans (by decide) hR.2⟩ dX7_pulls_95 (fun H locs hH => ?_)
  refine lv_ladd hx hb dX7_pulls_98 ?_
  refine lv_topl (fun v9_32 hn_33 => ?_)
  replace hf := q_nmE hn_33 hf
  clear hn_33
  refine lv_lstore (lv' := [(9, .long v9_32), (7, .long v7_20), (5, .long v5_8), (3, .long v3_4), (0, .ref h), (1, .int v1), (2, .int v2)]) hx hb dX7_pulls_99 hl (by decide) rfl (fun ls hl => ?_)
  refine lv_aload_n hx hb dX7_pulls_101 rfl (lv_at hl 4 rfl) ?_
  refine lv_dup hx hb dX7_pulls_102 rfl ?_
  refine q_getJ E hH (ci := 7) rfl 24 (by decide) kF_X7_86 (fun _ _ _ => rfl) hk_1 dX7_pulls_103 ?_
  refine lv_iload_n hx hb dX7_pulls_106 rfl (lv_at hl 6 rfl) ?_
  refine lv_i2l hx hb dX7_pulls_107 rfl ?_
  refine lv_lload hx hb dX7_pulls_108 (lv_at hl 1 rfl) ?_
  refine lv_lmul hx hb dX7_pulls_110 ?_
  refine lv_ladd hx hb dX7_pulls_111 ?_
  refine q_putJ E hH (ci := 7) rfl 24 (by decide) kF_X7_86 rfl (fun _ _ _ => rfl) (x := (gJ M h 24) + (v2.toInt64 * v7_20)) hk_1 rfl rfl dX7_pulls_112 hf (fun M_34 H locs hH hf => ?_)
  refine lv_aload_n hx hb dX7_pulls_115 rfl (lv_at hl 4 rfl) ?_
  refine lv_dup hx hb dX7_pulls_116 rfl ?_
  refine q_getJ E hH (ci := 7) rfl 25 (by decide) kF_X7_89 (fun _ _ _ => rfl) hk_1 dX7_pulls_117 ?_
  refine lv_iload_n hx hb dX7_pulls_120 rfl (lv_at hl 6 rfl) ?_
  refine lv_i2l hx hb dX7_pulls_121 rfl ?_
  refine lv_lload hx hb dX7_pulls_122 (lv_at hl 0 rfl) ?_
  refine lv_lmul hx hb dX7_pulls_124 ?_
  refine lv_ladd hx hb dX7_pulls_125 ?_
  refine q_putJ E hH (ci := 7) rfl 25 (by decide) kF_X7_89 rfl (fun _ _ _ => rfl) (x := (gJ M_34 h 25) + (v2.toInt64 * v9_32)) hk_1 rfl rfl dX7_pulls_126 hf (fun M_35 H locs hH hf => ?_)
  cases hf
  exact q_vret E hH dX7_pulls_129
set_option maxRecDepth 100000 in
theorem tX7_pulls (l : Launch) (D : va_G) (cA : Nat → ClassId) (z0 : Nat) (h : Nat) (v1 : Int32) (v2 : Int32) (Z : q_Z) (M : q_C) (M' : q_C) (hf : fX7_pulls h v1 v2 Z M = some M') : q_Ct l D cA z0 yX7_pulls cX7_pulls 11 none 2 52 [.ref h, .int v1, .int v2] Z M none Z M' 0 0 := by
  (refine q_start (plainFor_of_name (by decide)) (Nat.le_of_ble_eq_true rfl) (fun p e s m below meth c H ls E hH hl => ?_); exact bX7_pulls_0 E ⟨Nat.le_refl _, Nat.le_refl _⟩ ⟨Nat.le_refl _, Nat.le_refl _⟩ h _ _ Z M H [] ls M' hf hH hl)
def fX7_goesOn (h : Nat) (v1 : Int32) (Z : q_Z) (M : q_C) : Option (Int32 × q_C) :=
  q_gd (zK Z h == 17) <|
  q_nm (sJ M h 22 ((gJ M h 22) + (gJ M h 24))) fun M_2 =>
  q_nm (sJ M_2 h 23 ((gJ M_2 h 23) + (gJ M_2 h 25))) fun M_3 =>
  Option.bind (fX7_isLost (gJ M_3 h 22) (gJ M_3 h 23)) fun r_4 =>
  if r_4 = 0 then
    Option.bind (fX7_pulls h (v1 + (1 : Int32)) (1 : Int32) Z M_3) fun M_7 =>
    q_gd (decide ((1 : Int32) = 0) || decide ((1 : Int32) = 1)) <|
    some ((1 : Int32), M_7)
  else
    q_gd (decide ((0 : Int32) = 0) || decide ((0 : Int32) = 1)) <|
    some ((0 : Int32), M_3)
set_option maxHeartbeats 4000000 in
set_option maxRecDepth 100000 in
theorem bX7_goesOn_0 {cells slots : Nat} (E : q_E p s m meth c cX7_goesOn 2 RX7 (some .boolean) "goesOn" D cA) (hR : 3 ≤ R.frames ∧ 82 ≤ R.locals) (hcc : cells ≤ R.cells ∧ slots ≤ R.slots) (h : Nat) (v1 : Int32) (Z : q_Z) (M : q_C) (H : Heap) (locs : List Loc) (ls : Array Slot) (r : Int32) (M' : q_C) (hf : fX7_goesOn h v1 Z M = some (r, M')) (hH : q_Hh D cA z0 s Z M H locs) (hl : lv_has ls 2 [(0, .ref h), (1, .int v1)])  : W p l e R s m args below meth c H locs cells slots (MQ below (q_Q D cA z0 (some (.int r)) Z M') args s cells slots (fun q => z0 ≤ q)) (F0 m 0 ls []) := by
  have hx := E.1
  have hb := E.2.1
  have hown := E.2.2.2.1
  have hT := E.2.2.2.2.2.2.2.1
  unfold fX7_goesOn at hf
  refine lv_aload_n hx hb dX7_goesOn_0 rfl (lv_at hl 0 rfl) ?_
  refine lv_dup hx hb dX7_goesOn_1 rfl ?_
  obtain ⟨hk_1, hf⟩ := q_gdE hf
  have hk_1 := q_keq hk_1
  refine q_getJ E hH (ci := 7) rfl 22 (by decide) kF_X7_79 (fun _ _ _ => rfl) hk_1 dX7_goesOn_2 ?_
  refine lv_aload_n hx hb dX7_goesOn_5 rfl (lv_at hl 0 rfl) ?_
  refine q_getJ E hH (ci := 7) rfl 24 (by decide) kF_X7_86 (fun _ _ _ => rfl) hk_1 dX7_goesOn_6 ?_
  refine lv_ladd hx hb dX7_goesOn_9 ?_
  refine q_putJ E hH (ci := 7) rfl 22 (by decide) kF_X7_79 rfl (fun _ _ _ => rfl) (x := (gJ M h 22) + (gJ M h 24)) hk_1 rfl rfl dX7_goesOn_10 hf (fun M_2 H locs hH hf => ?_)
  refine lv_aload_n hx hb dX7_goesOn_13 rfl (lv_at hl 0 rfl) ?_
  refine lv_dup hx hb dX7_goesOn_14 rfl ?_
  refine q_getJ E hH (ci := 7) rfl 23 (by decide) kF_X7_83 (fun _ _ _ => rfl) hk_1 dX7_goesOn_15 ?_
  refine lv_aload_n hx hb dX7_goesOn_18 rfl (lv_at hl 0 rfl) ?_
  refine q_getJ E hH (ci := 7) rfl 25 (by decide) kF_X7_89 (fun _ _ _ => rfl) hk_1 dX7_goesOn_19 ?_
  refine lv_ladd hx hb dX7_goesOn_22 ?_
  refine q_putJ E hH (ci := 7) rfl 23 (by decide) kF_X7_83 rfl (fun _ _ _ => rfl) (x := (gJ M_2 h 23) + (gJ M_2 h 25)) hk_1 rfl rfl dX7_goesOn_23 hf (fun M_3 H locs hH hf => ?_)
  refine lv_aload_n hx hb dX7_goesOn_26 rfl (lv_at hl 0 rfl) ?_
  refine q_getJ E hH (ci := 7) rfl 22 (by decide) kF_X7_79 (fun _ _ _ => rfl) hk_1 dX7_goesOn_27 ?_
  refine lv_aload_n hx hb dX7_goesOn_30 rfl (lv_at hl 0 rfl) ?_
  refine q_getJ E hH (ci := 7) rfl 23 (by decide) kF_X7_83 (fun _ _ _ => rfl) hk_1 dX7_goesOn_31 ?_
  obtain ⟨r_4, hw_5, hf⟩ := q_biE hf
  refine q_cS (As := [.long (gJ M_3 h 22), .long (gJ M_3 h 23)]) (rest := []) (st1 := [.int r_4]) E hH (tX7_isLost l D cA z0 Z M_3 (gJ M_3 h 22) (gJ M_3 h 23) r_4 hw_5) mw_X7_isLost mi_X7_isLost kM_X7_141 hcc rfl rfl rfl hl.1 rfl rfl (Nat.le_of_ble_eq_true rfl) ⟨Nat.le_trans (by decide) hR.1, Nat.le_trans (by decide) hR.2⟩ dX7_goesOn_34 (fun H locs hH => ?_)
  refine lv_if_eq (tgt := 42) hx hb dX7_goesOn_37 (by decide) (fun cc_10 => ?_) (fun cc_10 => ?_)
  · replace hf := q_ifT cc_10 hf
    clear cc_10
    refine lv_aload_n hx hb dX7_goesOn_42 rfl (lv_at hl 0 rfl) ?_
    refine lv_iload_n hx hb dX7_goesOn_43 rfl (lv_at hl 1 rfl) ?_
    refine lv_iconst (v := 1) hx hb dX7_goesOn_44 (by decide) ?_
    refine lv_iadd hx hb dX7_goesOn_45 ?_
    refine lv_iconst (v := 1) hx hb dX7_goesOn_46 (by decide) ?_
    obtain ⟨M_7, hw_6, hf⟩ := q_biE hf
    refine q_cV (As := [.int (v1 + (1 : Int32)), .int (1 : Int32)]) (rest := []) (st1 := []) E hH (tX7_pulls l D cA z0 h (v1 + (1 : Int32)) (1 : Int32) Z M_3 M_7 hw_6) mw_X7_pulls mi_X7_pulls (ci := 7) rfl ms_X7_pulls kM_X7_145 hk_1 hcc rfl rfl rfl hl.1 rfl rfl (Nat.le_of_ble_eq_true rfl) ⟨Nat.le_trans (by decide) hR.1, Nat.le_trans (by decide) hR.2⟩ dX7_goesOn_47 (fun H locs hH => ?_)
    refine lv_iconst (v := 1) hx hb dX7_goesOn_50 (by decide) ?_
    obtain ⟨hz_8, hf⟩ := q_gdE hf
    cases hf
    exact q_zret E hH hz_8 dX7_goesOn_51
  · replace hf := q_ifF cc_10 hf
    clear cc_10
    refine lv_iconst (v := 0) hx hb dX7_goesOn_40 (by decide) ?_
    obtain ⟨hz_9, hf⟩ := q_gdE hf
    cases hf
    exact q_zret E hH hz_9 dX7_goesOn_41
set_option maxRecDepth 100000 in
theorem tX7_goesOn (l : Launch) (D : va_G) (cA : Nat → ClassId) (z0 : Nat) (h : Nat) (v1 : Int32) (Z : q_Z) (M : q_C) (r : Int32) (M' : q_C) (hf : fX7_goesOn h v1 Z M = some (r, M')) : q_Ct l D cA z0 yX7_goesOn cX7_goesOn 2 (some .boolean) 3 82 [.ref h, .int v1] Z M (some (.int r)) Z M' 0 0 := by
  (refine q_start (plainFor_of_name (by decide)) (Nat.le_of_ble_eq_true rfl) (fun p e s m below meth c H ls E hH hl => ?_); exact bX7_goesOn_0 E ⟨Nat.le_refl _, Nat.le_refl _⟩ ⟨Nat.le_refl _, Nat.le_refl _⟩ h _ Z M H [] ls r M' hf hH hl)
def fX7_begins_L209 (h : Nat) (v3 : Int64) (v5 : Int64) (v7 : Int64) (v9 : Int64) (v11 : Int32) (v12 : Int32) (v13 : Int64) (v15 : Int64) (v18 : Int32) (v17 : Int32) (v19 : Int32) (Z : q_Z) (M : q_C) : Option ((Int32 × Int32 × q_C) ⊕ (Int32 × q_C)) :=
  if v12 ≤ v19 then
    some (Sum.inr (v17, M))
  else
    if v17 = 0 then
      some (Sum.inr (v17, M))
    else
      q_gd (zK Z h == 17) <|
      q_b2 (fX7_goesOn h v19 Z M) fun r_34 M_36 =>
      q_nm (v19 + (1 : Int32)) fun v19_37 =>
      some (Sum.inl (r_34, v19_37, M_36))
set_option maxHeartbeats 4000000 in
set_option maxRecDepth 100000 in
theorem lX7_begins_209 {cells slots : Nat} {Q : State → Prop} (E : q_E p s m meth c cX7_begins 20 RX7 none "begins" D cA) (hR : 4 ≤ R.frames ∧ 103 ≤ R.locals) (hcc : cells ≤ R.cells ∧ slots ≤ R.slots)  (h : Nat) (v3 : Int64) (v5 : Int64) (v7 : Int64) (v9 : Int64) (v11 : Int32) (v12 : Int32) (v13 : Int64) (v15 : Int64) (v18 : Int32) (Z : q_Z) : ∀ (n : Nat) (v17 : Int32) (v19 : Int32) (M : q_C) (H : Heap) (locs : List Loc) (ls : Array Slot) (r : (Int32 × q_C)), q_it (fun x => fX7_begins_L209 h v3 v5 v7 v9 v11 v12 v13 v15 v18 x.1 x.2.1 Z x.2.2) n (v17, v19, M) = some r → q_Hh D cA z0 s Z M H locs → lv_has ls 20 [(0, .ref h), (3, .long v3), (5, .long v5), (7, .long v7), (9, .long v9), (11, .int v11), (12, .int v12), (13, .long v13), (15, .long v15), (17, .int v17), (18, .int v18), (19, .int v19)] → (kx0 : ∀ (w17 : Int32) (M1 : q_C) (H : Heap) (locs : List Loc) (ls : Array Slot), (w17, M1) = r → q_Hh D cA z0 s Z M1 H locs → lv_has ls 20 [(0, .ref h), (3, .long v3), (5, .long v5), (7, .long v7), (9, .long v9), (11, .int v11), (12, .int v12), (13, .long v13), (15, .long v15), (17, .int w17), (18, .int v18)] → W p l e R s m args below meth c H locs cells slots Q (F0 m 235 ls [])) → W p l e R s m args below meth c H locs cells slots Q (F0 m 209 ls []) := by
  have hx := E.1
  have hb := E.2.1
  have hown := E.2.2.2.1
  have hT := E.2.2.2.2.2.2.2.1
  intro n
  induction n with
  | zero =>
    intro v17 v19 M H locs ls r hf
    cases hf
  | succ n ih =>
    intro v17 v19 M H locs ls r hf hH hl ky0
    obtain ⟨n1, o, hn, hf, ho⟩ := q_itE hf
    cases hn
    have hf : fX7_begins_L209 h v3 v5 v7 v9 v11 v12 v13 v15 v18 v17 v19 Z M = some o := hf
    have kb : ∀ (w17 : Int32) (w19 : Int32) (M1 : q_C) (H : Heap) (locs : List Loc) (ls : Array Slot), Sum.inl (w17, w19, M1) = o → q_Hh D cA z0 s Z M1 H locs → lv_has ls 20 [(0, .ref h), (3, .long v3), (5, .long v5), (7, .long v7), (9, .long v9), (11, .int v11), (12, .int v12), (13, .long v13), (15, .long v15), (17, .int w17), (18, .int v18), (19, .int w19)] → W p l e R s m args below meth c H locs cells slots Q (F0 m 209 ls []) := by
      intro w17 w19 M1 H locs ls e hH hl
      subst e
      exact ih w17 w19 M1 H locs ls r ho hH hl ky0
    have kx0 : ∀ (w17 : Int32) (M1 : q_C) (H : Heap) (locs : List Loc) (ls : Array Slot), Sum.inr (w17, M1) = o → q_Hh D cA z0 s Z M1 H locs → lv_has ls 20 [(0, .ref h), (3, .long v3), (5, .long v5), (7, .long v7), (9, .long v9), (11, .int v11), (12, .int v12), (13, .long v13), (15, .long v15), (17, .int w17), (18, .int v18)] → W p l e R s m args below meth c H locs cells slots Q (F0 m 235 ls []) := by
      intro w17 M1 H locs ls e hH hl
      subst e
      exact ky0 w17 M1 H locs ls ho hH hl
    unfold fX7_begins_L209 at hf
    refine lv_iload hx hb dX7_begins_209 (lv_at hl 11 rfl) ?_
    refine lv_iload hx hb dX7_begins_211 (lv_at hl 6 rfl) ?_
    refine lv_icmp_ge (tgt := 235) hx hb dX7_begins_213 (by decide) (fun cc_40 => ?_) (fun cc_40 => ?_)
    · replace hf := q_ifT cc_40 hf
      clear cc_40
      cases hf
      exact kx0 v17 M _ _ _ rfl hH (lv_sub hl [0, 1, 2, 3, 4, 5, 6, 7, 8, 9, 10] rfl)
    · replace hf := q_ifF cc_40 hf
      clear cc_40
      refine lv_iload hx hb dX7_begins_216 (lv_at hl 9 rfl) ?_
      refine lv_if_eq (tgt := 235) hx hb dX7_begins_218 (by decide) (fun cc_39 => ?_) (fun cc_39 => ?_)
      · replace hf := q_ifT cc_39 hf
        clear cc_39
        cases hf
        exact kx0 v17 M _ _ _ rfl hH (lv_sub hl [0, 1, 2, 3, 4, 5, 6, 7, 8, 9, 10] rfl)
      · replace hf := q_ifF cc_39 hf
        clear cc_39
        refine lv_aload_n hx hb dX7_begins_221 rfl (lv_at hl 0 rfl) ?_
        refine lv_iload hx hb dX7_begins_222 (lv_at hl 11 rfl) ?_
        obtain ⟨hk_33, hf⟩ := q_gdE hf
        have hk_33 := q_keq hk_33
        obtain ⟨r_34, M_36, hw_35, hf⟩ := q_b2E hf
        refine q_cV (As := [.int v19]) (rest := []) (st1 := [.int r_34]) E hH (tX7_goesOn l D cA z0 h v19 Z M r_34 M_36 hw_35) mw_X7_goesOn mi_X7_goesOn (ci := 7) rfl ms_X7_goesOn kM_X7_156 hk_33 hcc rfl rfl rfl hl.1 rfl rfl (Nat.le_of_ble_eq_true rfl) ⟨Nat.le_trans (by decide) hR.1, Nat.le_trans (by decide) hR.2⟩ dX7_begins_224 (fun H locs hH => ?_)
        refine lv_istore (lv' := [(17, .int r_34), (0, .ref h), (3, .long v3), (5, .long v5), (7, .long v7), (9, .long v9), (11, .int v11), (12, .int v12), (13, .long v13), (15, .long v15), (18, .int v18), (19, .int v19)]) hx hb dX7_begins_227 hl (by decide) rfl (fun ls hl => ?_)
        obtain ⟨v19_37, hn_38⟩ : ∃ y : Int32, y = v19 + (1 : Int32) := ⟨_, rfl⟩
        replace hf := q_nmE hn_38 hf
        refine lv_iinc (v := v19_37) (lv' := [(19, .int v19_37), (17, .int r_34), (0, .ref h), (3, .long v3), (5, .long v5), (7, .long v7), (9, .long v9), (11, .int v11), (12, .int v12), (13, .long v13), (15, .long v15), (18, .int v18)]) hx hb dX7_begins_229 hl (k := 11) rfl (by rw [hn_38]; rfl) (by decide) rfl (fun ls hl => ?_)
        clear hn_38
        refine lv_goto (tgt := 209) hx hb dX7_begins_232 (by decide) ?_
        cases hf
        exact kb r_34 v19_37 M_36 _ _ _ rfl hH (lv_sub hl [2, 3, 4, 5, 6, 7, 8, 9, 10, 1, 11, 0] rfl)
def fX7_begins_b281 (h : Nat) (v3 : Int64) (v5 : Int64) (v7 : Int64) (v9 : Int64) (v11 : Int32) (v12 : Int32) (v13 : Int64) (v15 : Int64) (v17 : Int32) (v18 : Int32) (Z : q_Z) (M : q_C) : Option ((Int64 × Int64 × Int32 × Int32 × q_C) ⊕ (Int64 × Int64 × q_C)) :=
  q_nm (v18 + (1 : Int32)) fun v18_52 =>
  some (Sum.inl (v13, v15, v17, v18_52, M))
set_option maxHeartbeats 4000000 in
set_option maxRecDepth 100000 in
theorem bX7_begins_281 {cells slots : Nat} {Q : State → Prop} (E : q_E p s m meth c cX7_begins 20 RX7 none "begins" D cA) (hR : 4 ≤ R.frames ∧ 103 ≤ R.locals) (hcc : cells ≤ R.cells ∧ slots ≤ R.slots) (h : Nat) (v3 : Int64) (v5 : Int64) (v7 : Int64) (v9 : Int64) (v11 : Int32) (v12 : Int32) (v13 : Int64) (v15 : Int64) (v17 : Int32) (v18 : Int32) (Z : q_Z) (M : q_C) (H : Heap) (locs : List Loc) (ls : Array Slot) (o : (Int64 × Int64 × Int32 × Int32 × q_C) ⊕ (Int64 × Int64 × q_C)) (hf : fX7_begins_b281 h v3 v5 v7 v9 v11 v12 v13 v15 v17 v18 Z M = some o) (hH : q_Hh D cA z0 s Z M H locs) (hl : lv_has ls 20 [(0, .ref h), (3, .long v3), (5, .long v5), (7, .long v7), (9, .long v9), (11, .int v11), (12, .int v12), (13, .long v13), (15, .long v15), (17, .int v17), (18, .int v18)]) (kb : ∀ (w13 : Int64) (w15 : Int64) (w17 : Int32) (w18 : Int32) (M1 : q_C) (H : Heap) (locs : List Loc) (ls : Array Slot), Sum.inl (w13, w15, w17, w18, M1) = o → q_Hh D cA z0 s Z M1 H locs → lv_has ls 20 [(0, .ref h), (3, .long v3), (5, .long v5), (7, .long v7), (9, .long v9), (11, .int v11), (12, .int v12), (13, .long w13), (15, .long w15), (17, .int w17), (18, .int w18)] → W p l e R s m args below meth c H locs cells slots Q (F0 m 171 ls [])) (kx0 : ∀ (w13 : Int64) (w15 : Int64) (M1 : q_C) (H : Heap) (locs : List Loc) (ls : Array Slot), Sum.inr (w13, w15, M1) = o → q_Hh D cA z0 s Z M1 H locs → lv_has ls 20 [(0, .ref h), (3, .long v3), (5, .long v5), (13, .long w13), (15, .long w15)] → W p l e R s m args below meth c H locs cells slots Q (F0 m 287 ls [])) : W p l e R s m args below meth c H locs cells slots Q (F0 m 281 ls []) := by
  have hx := E.1
  have hb := E.2.1
  have hown := E.2.2.2.1
  have hT := E.2.2.2.2.2.2.2.1
  unfold fX7_begins_b281 at hf
  obtain ⟨v18_52, hn_53⟩ : ∃ y : Int32, y = v18 + (1 : Int32) := ⟨_, rfl⟩
  replace hf := q_nmE hn_53 hf
  refine lv_iinc (v := v18_52) (lv' := [(18, .int v18_52), (0, .ref h), (3, .long v3), (5, .long v5), (7, .long v7), (9, .long v9), (11, .int v11), (12, .int v12), (13, .long v13), (15, .long v15), (17, .int v17)]) hx hb dX7_begins_281 hl (k := 10) rfl (by rw [hn_53]; rfl) (by decide) rfl (fun ls hl => ?_)
  clear hn_53
  refine lv_goto (tgt := 171) hx hb dX7_begins_284 (by decide) ?_
  cases hf
  exact kb v13 v15 v17 v18_52 M _ _ _ rfl hH (lv_sub hl [1, 2, 3, 4, 5, 6, 7, 8, 9, 10, 0] rfl)
def fX7_begins_b235 (h : Nat) (v3 : Int64) (v5 : Int64) (v7 : Int64) (v9 : Int64) (v11 : Int32) (v12 : Int32) (v13 : Int64) (v15 : Int64) (v17 : Int32) (v18 : Int32) (Z : q_Z) (M : q_C) : Option ((Int64 × Int64 × Int32 × Int32 × q_C) ⊕ (Int64 × Int64 × q_C)) :=
  if v17 = 0 then
    fX7_begins_b281 h v3 v5 v7 v9 v11 v12 v13 v15 v17 v18 Z M
  else
    q_gd (zK Z h == 17) <|
    q_gd (!(decide ((v12 - v11).toInt64 = 0))) <|
    q_nm (v13 + ((v7 - (gJ M h 22)) / ((v12 - v11).toInt64))) fun v13_47 =>
    q_gd (!(decide ((v12 - v11).toInt64 = 0))) <|
    q_nm (v15 + ((v9 - (gJ M h 23)) / ((v12 - v11).toInt64))) fun v15_50 =>
    fX7_begins_b281 h v3 v5 v7 v9 v11 v12 v13_47 v15_50 v17 v18 Z M
set_option maxHeartbeats 4000000 in
set_option maxRecDepth 100000 in
theorem bX7_begins_235 {cells slots : Nat} {Q : State → Prop} (E : q_E p s m meth c cX7_begins 20 RX7 none "begins" D cA) (hR : 4 ≤ R.frames ∧ 103 ≤ R.locals) (hcc : cells ≤ R.cells ∧ slots ≤ R.slots) (h : Nat) (v3 : Int64) (v5 : Int64) (v7 : Int64) (v9 : Int64) (v11 : Int32) (v12 : Int32) (v13 : Int64) (v15 : Int64) (v17 : Int32) (v18 : Int32) (Z : q_Z) (M : q_C) (H : Heap) (locs : List Loc) (ls : Array Slot) (o : (Int64 × Int64 × Int32 × Int32 × q_C) ⊕ (Int64 × Int64 × q_C)) (hf : fX7_begins_b235 h v3 v5 v7 v9 v11 v12 v13 v15 v17 v18 Z M = some o) (hH : q_Hh D cA z0 s Z M H locs) (hl : lv_has ls 20 [(0, .ref h), (3, .long v3), (5, .long v5), (7, .long v7), (9, .long v9), (11, .int v11), (12, .int v12), (13, .long v13), (15, .long v15), (17, .int v17), (18, .int v18)]) (kb : ∀ (w13 : Int64) (w15 : Int64) (w17 : Int32) (w18 : Int32) (M1 : q_C) (H : Heap) (locs : List Loc) (ls : Array Slot), Sum.inl (w13, w15, w17, w18, M1) = o → q_Hh D cA z0 s Z M1 H locs → lv_has ls 20 [(0, .ref h), (3, .long v3), (5, .long v5), (7, .long v7), (9, .long v9), (11, .int v11), (12, .int v12), (13, .long w13), (15, .long w15), (17, .int w17), (18, .int w18)] → W p l e R s m args below meth c H locs cells slots Q (F0 m 171 ls [])) (kx0 : ∀ (w13 : Int64) (w15 : Int64) (M1 : q_C) (H : Heap) (locs : List Loc) (ls : Array Slot), Sum.inr (w13, w15, M1) = o → q_Hh D cA z0 s Z M1 H locs → lv_has ls 20 [(0, .ref h), (3, .long v3), (5, .long v5), (13, .long w13), (15, .long w15)] → W p l e R s m args below meth c H locs cells slots Q (F0 m 287 ls [])) : W p l e R s m args below meth c H locs cells slots Q (F0 m 235 ls []) := by
  have hx := E.1
  have hb := E.2.1
  have hown := E.2.2.2.1
  have hT := E.2.2.2.2.2.2.2.1
  unfold fX7_begins_b235 at hf
  refine lv_iload hx hb dX7_begins_235 (lv_at hl 9 rfl) ?_
  refine lv_if_ne (tgt := 243) hx hb dX7_begins_237 (by decide) (fun cc_54 => ?_) (fun cc_54 => ?_)
  · replace hf := q_ifF cc_54 hf
    clear cc_54
    refine lv_lload hx hb dX7_begins_243 (lv_at hl 7 rfl) ?_
    refine lv_lload hx hb dX7_begins_245 (lv_at hl 3 rfl) ?_
    refine lv_aload_n hx hb dX7_begins_247 rfl (lv_at hl 0 rfl) ?_
    obtain ⟨hk_45, hf⟩ := q_gdE hf
    have hk_45 := q_keq hk_45
    refine q_getJ E hH (ci := 7) rfl 22 (by decide) kF_X7_79 (fun _ _ _ => rfl) hk_45 dX7_begins_248 ?_
    refine lv_lsub hx hb dX7_begins_251 ?_
    refine lv_iload hx hb dX7_begins_252 (lv_at hl 6 rfl) ?_
    refine lv_iload hx hb dX7_begins_254 (lv_at hl 5 rfl) ?_
    refine lv_isub hx hb dX7_begins_256 ?_
    refine lv_i2l hx hb dX7_begins_257 rfl ?_
    obtain ⟨hz_46, hf⟩ := q_gdE hf
    refine lv_ldiv hx hb dX7_begins_258 (by simpa using hz_46) ?_
    refine lv_ladd hx hb dX7_begins_259 ?_
    refine lv_topl (fun v13_47 hn_48 => ?_)
    replace hf := q_nmE hn_48 hf
    clear hn_48
    refine lv_lstore (lv' := [(13, .long v13_47), (0, .ref h), (3, .long v3), (5, .long v5), (7, .long v7), (9, .long v9), (11, .int v11), (12, .int v12), (15, .long v15), (17, .int v17), (18, .int v18)]) hx hb dX7_begins_260 hl (by decide) rfl (fun ls hl => ?_)
    refine lv_lload hx hb dX7_begins_262 (lv_at hl 8 rfl) ?_
    refine lv_lload hx hb dX7_begins_264 (lv_at hl 5 rfl) ?_
    refine lv_aload_n hx hb dX7_begins_266 rfl (lv_at hl 1 rfl) ?_
    refine q_getJ E hH (ci := 7) rfl 23 (by decide) kF_X7_83 (fun _ _ _ => rfl) hk_45 dX7_begins_267 ?_
    refine lv_lsub hx hb dX7_begins_270 ?_
    refine lv_iload hx hb dX7_begins_271 (lv_at hl 7 rfl) ?_
    refine lv_iload hx hb dX7_begins_273 (lv_at hl 6 rfl) ?_
    refine lv_isub hx hb dX7_begins_275 ?_
    refine lv_i2l hx hb dX7_begins_276 rfl ?_
    obtain ⟨hz_49, hf⟩ := q_gdE hf
    refine lv_ldiv hx hb dX7_begins_277 (by simpa using hz_49) ?_
    refine lv_ladd hx hb dX7_begins_278 ?_
    refine lv_topl (fun v15_50 hn_51 => ?_)
    replace hf := q_nmE hn_51 hf
    clear hn_51
    refine lv_lstore (lv' := [(15, .long v15_50), (13, .long v13_47), (0, .ref h), (3, .long v3), (5, .long v5), (7, .long v7), (9, .long v9), (11, .int v11), (12, .int v12), (17, .int v17), (18, .int v18)]) hx hb dX7_begins_279 hl (by decide) rfl (fun ls hl => ?_)
    exact bX7_begins_281 E hR hcc h v3 v5 v7 v9 v11 v12 v13_47 v15_50 v17 v18 Z M _ _ _ _ hf hH (lv_sub hl [2, 3, 4, 5, 6, 7, 8, 1, 0, 9, 10] rfl) kb kx0
  · replace hf := q_ifT cc_54 hf
    clear cc_54
    refine lv_goto (tgt := 281) hx hb dX7_begins_240 (by decide) ?_
    exact bX7_begins_281 E hR hcc h v3 v5 v7 v9 v11 v12 v13 v15 v17 v18 Z M _ _ _ _ hf hH (lv_sub hl [0, 1, 2, 3, 4, 5, 6, 7, 8, 9, 10] rfl) kb kx0
def fX7_begins_L171 (h : Nat) (v3 : Int64) (v5 : Int64) (v7 : Int64) (v9 : Int64) (v11 : Int32) (v12 : Int32) (v13 : Int64) (v15 : Int64) (v17 : Int32) (v18 : Int32) (Z : q_Z) (M : q_C) : Option ((Int64 × Int64 × Int32 × Int32 × q_C) ⊕ (Int64 × Int64 × q_C)) :=
  if (3 : Int32) ≤ v18 then
    some (Sum.inr (v13, v15, M))
  else
    if v17 = 0 then
      some (Sum.inr (v13, v15, M))
    else
      q_gd (zK Z h == 17) <|
      q_nm (sJ M h 22 v3) fun M_29 =>
      q_nm (sJ M_29 h 23 v5) fun M_30 =>
      q_nm (sJ M_30 h 24 v13) fun M_31 =>
      q_nm (sJ M_31 h 25 v15) fun M_32 =>
      Option.bind (q_it (fun x => fX7_begins_L209 h v3 v5 v7 v9 v11 v12 v13 v15 v18 x.1 x.2.1 Z x.2.2) q_FU (v17, v11, M_32)) fun r_41 =>
      q_nm r_41.1 fun v17_43 =>
      q_nm r_41.2 fun M_44 =>
      fX7_begins_b235 h v3 v5 v7 v9 v11 v12 v13 v15 v17_43 v18 Z M_44
set_option maxHeartbeats 4000000 in
set_option maxRecDepth 100000 in
theorem lX7_begins_171 {cells slots : Nat} {Q : State → Prop} (E : q_E p s m meth c cX7_begins 20 RX7 none "begins" D cA) (hR : 4 ≤ R.frames ∧ 103 ≤ R.locals) (hcc : cells ≤ R.cells ∧ slots ≤ R.slots)  (h : Nat) (v3 : Int64) (v5 : Int64) (v7 : Int64) (v9 : Int64) (v11 : Int32) (v12 : Int32) (Z : q_Z) : ∀ (n : Nat) (v13 : Int64) (v15 : Int64) (v17 : Int32) (v18 : Int32) (M : q_C) (H : Heap) (locs : List Loc) (ls : Array Slot) (r : (Int64 × Int64 × q_C)), q_it (fun x => fX7_begins_L171 h v3 v5 v7 v9 v11 v12 x.1 x.2.1 x.2.2.1 x.2.2.2.1 Z x.2.2.2.2) n (v13, v15, v17, v18, M) = some r → q_Hh D cA z0 s Z M H locs → lv_has ls 20 [(0, .ref h), (3, .long v3), (5, .long v5), (7, .long v7), (9, .long v9), (11, .int v11), (12, .int v12), (13, .long v13), (15, .long v15), (17, .int v17), (18, .int v18)] → (kx0 : ∀ (w13 : Int64) (w15 : Int64) (M1 : q_C) (H : Heap) (locs : List Loc) (ls : Array Slot), (w13, w15, M1) = r → q_Hh D cA z0 s Z M1 H locs → lv_has ls 20 [(0, .ref h), (3, .long v3), (5, .long v5), (13, .long w13), (15, .long w15)] → W p l e R s m args below meth c H locs cells slots Q (F0 m 287 ls [])) → W p l e R s m args below meth c H locs cells slots Q (F0 m 171 ls []) := by
  have hx := E.1
  have hb := E.2.1
  have hown := E.2.2.2.1
  have hT := E.2.2.2.2.2.2.2.1
  intro n
  induction n with
  | zero =>
    intro v13 v15 v17 v18 M H locs ls r hf
    cases hf
  | succ n ih =>
    intro v13 v15 v17 v18 M H locs ls r hf hH hl ky0
    obtain ⟨n1, o, hn, hf, ho⟩ := q_itE hf
    cases hn
    have hf : fX7_begins_L171 h v3 v5 v7 v9 v11 v12 v13 v15 v17 v18 Z M = some o := hf
    have kb : ∀ (w13 : Int64) (w15 : Int64) (w17 : Int32) (w18 : Int32) (M1 : q_C) (H : Heap) (locs : List Loc) (ls : Array Slot), Sum.inl (w13, w15, w17, w18, M1) = o → q_Hh D cA z0 s Z M1 H locs → lv_has ls 20 [(0, .ref h), (3, .long v3), (5, .long v5), (7, .long v7), (9, .long v9), (11, .int v11), (12, .int v12), (13, .long w13), (15, .long w15), (17, .int w17), (18, .int w18)] → W p l e R s m args below meth c H locs cells slots Q (F0 m 171 ls []) := by
      intro w13 w15 w17 w18 M1 H locs ls e hH hl
      subst e
      exact ih w13 w15 w17 w18 M1 H locs ls r ho hH hl ky0
    have kx0 : ∀ (w13 : Int64) (w15 : Int64) (M1 : q_C) (H : Heap) (locs : List Loc) (ls : Array Slot), Sum.inr (w13, w15, M1) = o → q_Hh D cA z0 s Z M1 H locs → lv_has ls 20 [(0, .ref h), (3, .long v3), (5, .long v5), (13, .long w13), (15, .long w15)] → W p l e R s m args below meth c H locs cells slots Q (F0 m 287 ls []) := by
      intro w13 w15 M1 H locs ls e hH hl
      subst e
      exact ky0 w13 w15 M1 H locs ls ho hH hl
    unfold fX7_begins_L171 at hf
    refine lv_iload hx hb dX7_begins_171 (lv_at hl 10 rfl) ?_
    refine lv_iconst (v := 3) hx hb dX7_begins_173 (by decide) ?_
    refine lv_icmp_ge (tgt := 287) hx hb dX7_begins_174 (by decide) (fun cc_57 => ?_) (fun cc_57 => ?_)
    · replace hf := q_ifT cc_57 hf
      clear cc_57
      cases hf
      exact kx0 v13 v15 M _ _ _ rfl hH (lv_sub hl [0, 1, 2, 7, 8] rfl)
    · replace hf := q_ifF cc_57 hf
      clear cc_57
      refine lv_iload hx hb dX7_begins_177 (lv_at hl 9 rfl) ?_
      refine lv_if_eq (tgt := 287) hx hb dX7_begins_179 (by decide) (fun cc_56 => ?_) (fun cc_56 => ?_)
      · replace hf := q_ifT cc_56 hf
        clear cc_56
        cases hf
        exact kx0 v13 v15 M _ _ _ rfl hH (lv_sub hl [0, 1, 2, 7, 8] rfl)
      · replace hf := q_ifF cc_56 hf
        clear cc_56
        refine lv_aload_n hx hb dX7_begins_182 rfl (lv_at hl 0 rfl) ?_
        refine lv_lload_n hx hb dX7_begins_183 rfl (lv_at hl 1 rfl) ?_
        obtain ⟨hk_28, hf⟩ := q_gdE hf
        have hk_28 := q_keq hk_28
        refine q_putJ E hH (ci := 7) rfl 22 (by decide) kF_X7_79 rfl (fun _ _ _ => rfl) (x := v3) hk_28 rfl rfl dX7_begins_184 hf (fun M_29 H locs hH hf => ?_)
        refine lv_aload_n hx hb dX7_begins_187 rfl (lv_at hl 0 rfl) ?_
        refine lv_lload hx hb dX7_begins_188 (lv_at hl 2 rfl) ?_
        refine q_putJ E hH (ci := 7) rfl 23 (by decide) kF_X7_83 rfl (fun _ _ _ => rfl) (x := v5) hk_28 rfl rfl dX7_begins_190 hf (fun M_30 H locs hH hf => ?_)
        refine lv_aload_n hx hb dX7_begins_193 rfl (lv_at hl 0 rfl) ?_
        refine lv_lload hx hb dX7_begins_194 (lv_at hl 7 rfl) ?_
        refine q_putJ E hH (ci := 7) rfl 24 (by decide) kF_X7_86 rfl (fun _ _ _ => rfl) (x := v13) hk_28 rfl rfl dX7_begins_196 hf (fun M_31 H locs hH hf => ?_)
        refine lv_aload_n hx hb dX7_begins_199 rfl (lv_at hl 0 rfl) ?_
        refine lv_lload hx hb dX7_begins_200 (lv_at hl 8 rfl) ?_
        refine q_putJ E hH (ci := 7) rfl 25 (by decide) kF_X7_89 rfl (fun _ _ _ => rfl) (x := v15) hk_28 rfl rfl dX7_begins_202 hf (fun M_32 H locs hH hf => ?_)
        refine lv_iload hx hb dX7_begins_205 (lv_at hl 5 rfl) ?_
        refine lv_istore (lv' := [(19, .int v11), (0, .ref h), (3, .long v3), (5, .long v5), (7, .long v7), (9, .long v9), (11, .int v11), (12, .int v12), (13, .long v13), (15, .long v15), (17, .int v17), (18, .int v18)]) hx hb dX7_begins_207 hl (by decide) rfl (fun ls hl => ?_)
        obtain ⟨r_41, hr_42, hf⟩ := q_biE hf
        refine lX7_begins_209 E hR hcc h v3 v5 v7 v9 v11 v12 v13 v15 v18 Z q_FU v17 v11 M_32 _ _ _ r_41 hr_42 hH (lv_sub hl [1, 2, 3, 4, 5, 6, 7, 8, 9, 10, 11, 0] rfl) (fun v17_43 M_44 H locs ls he_55 hH hl => ?_)
        · subst he_55
          replace hf := q_nmE (x := v17_43) rfl hf
          replace hf := q_nmE (x := M_44) rfl hf
          exact bX7_begins_235 E hR hcc h v3 v5 v7 v9 v11 v12 v13 v15 v17_43 v18 Z M_44 _ _ _ _ hf hH (lv_sub hl [0, 1, 2, 3, 4, 5, 6, 7, 8, 9, 10] rfl) kb kx0
def fX7_begins_b287 (h : Nat) (v3 : Int64) (v5 : Int64) (v13 : Int64) (v15 : Int64) (Z : q_Z) (M : q_C) : Option (q_C) :=
  q_gd (zK Z h == 17) <|
  q_nm (sJ M h 22 v3) fun M_64 =>
  q_nm (sJ M_64 h 23 v5) fun M_65 =>
  q_nm (sJ M_65 h 24 v13) fun M_66 =>
  q_nm (sJ M_66 h 25 v15) fun M_67 =>
  some M_67
set_option maxHeartbeats 4000000 in
set_option maxRecDepth 100000 in
theorem bX7_begins_287 {cells slots : Nat} (E : q_E p s m meth c cX7_begins 20 RX7 none "begins" D cA) (hR : 4 ≤ R.frames ∧ 103 ≤ R.locals) (hcc : cells ≤ R.cells ∧ slots ≤ R.slots) (h : Nat) (v3 : Int64) (v5 : Int64) (v13 : Int64) (v15 : Int64) (Z : q_Z) (M : q_C) (H : Heap) (locs : List Loc) (ls : Array Slot) (M' : q_C) (hf : fX7_begins_b287 h v3 v5 v13 v15 Z M = some M') (hH : q_Hh D cA z0 s Z M H locs) (hl : lv_has ls 20 [(0, .ref h), (3, .long v3), (5, .long v5), (13, .long v13), (15, .long v15)])  : W p l e R s m args below meth c H locs cells slots (MQ below (q_Q D cA z0 none Z M') args s cells slots (fun q => z0 ≤ q)) (F0 m 287 ls []) := by
  have hx := E.1
  have hb := E.2.1
  have hown := E.2.2.2.1
  have hT := E.2.2.2.2.2.2.2.1
  unfold fX7_begins_b287 at hf
  refine lv_aload_n hx hb dX7_begins_287 rfl (lv_at hl 0 rfl) ?_
  refine lv_lload_n hx hb dX7_begins_288 rfl (lv_at hl 1 rfl) ?_
  obtain ⟨hk_63, hf⟩ := q_gdE hf
  have hk_63 := q_keq hk_63
  refine q_putJ E hH (ci := 7) rfl 22 (by decide) kF_X7_79 rfl (fun _ _ _ => rfl) (x := v3) hk_63 rfl rfl dX7_begins_289 hf (fun M_64 H locs hH hf => ?_)
  refine lv_aload_n hx hb dX7_begins_292 rfl (lv_at hl 0 rfl) ?_
  refine lv_lload hx hb dX7_begins_293 (lv_at hl 2 rfl) ?_
  refine q_putJ E hH (ci := 7) rfl 23 (by decide) kF_X7_83 rfl (fun _ _ _ => rfl) (x := v5) hk_63 rfl rfl dX7_begins_295 hf (fun M_65 H locs hH hf => ?_)
  refine lv_aload_n hx hb dX7_begins_298 rfl (lv_at hl 0 rfl) ?_
  refine lv_lload hx hb dX7_begins_299 (lv_at hl 3 rfl) ?_
  refine q_putJ E hH (ci := 7) rfl 24 (by decide) kF_X7_86 rfl (fun _ _ _ => rfl) (x := v13) hk_63 rfl rfl dX7_begins_301 hf (fun M_66 H locs hH hf => ?_)
  refine lv_aload_n hx hb dX7_begins_304 rfl (lv_at hl 0 rfl) ?_
  refine lv_lload hx hb dX7_begins_305 (lv_at hl 4 rfl) ?_
  refine q_putJ E hH (ci := 7) rfl 25 (by decide) kF_X7_89 rfl (fun _ _ _ => rfl) (x := v15) hk_63 rfl rfl dX7_begins_307 hf (fun M_67 H locs hH hf => ?_)
  cases hf
  exact q_vret E hH dX7_begins_310
def fX7_begins_b166 (h : Nat) (v3 : Int64) (v5 : Int64) (v7 : Int64) (v9 : Int64) (v11 : Int32) (v12 : Int32) (v13 : Int64) (v15 : Int64) (s0 : Int32) (Z : q_Z) (M : q_C) : Option (q_C) :=
  Option.bind (q_it (fun x => fX7_begins_L171 h v3 v5 v7 v9 v11 v12 x.1 x.2.1 x.2.2.1 x.2.2.2.1 Z x.2.2.2.2) q_FU (v13, v15, s0, (0 : Int32), M)) fun r_58 =>
  q_nm r_58.1 fun v13_60 =>
  q_nm r_58.2.1 fun v15_61 =>
  q_nm r_58.2.2 fun M_62 =>
  fX7_begins_b287 h v3 v5 v13_60 v15_61 Z M_62
set_option maxHeartbeats 4000000 in
set_option maxRecDepth 100000 in
theorem bX7_begins_166 {cells slots : Nat} (E : q_E p s m meth c cX7_begins 20 RX7 none "begins" D cA) (hR : 4 ≤ R.frames ∧ 103 ≤ R.locals) (hcc : cells ≤ R.cells ∧ slots ≤ R.slots) (h : Nat) (v3 : Int64) (v5 : Int64) (v7 : Int64) (v9 : Int64) (v11 : Int32) (v12 : Int32) (v13 : Int64) (v15 : Int64) (s0 : Int32) (Z : q_Z) (M : q_C) (H : Heap) (locs : List Loc) (ls : Array Slot) (M' : q_C) (hf : fX7_begins_b166 h v3 v5 v7 v9 v11 v12 v13 v15 s0 Z M = some M') (hH : q_Hh D cA z0 s Z M H locs) (hl : lv_has ls 20 [(0, .ref h), (3, .long v3), (5, .long v5), (7, .long v7), (9, .long v9), (11, .int v11), (12, .int v12), (13, .long v13), (15, .long v15)])  : W p l e R s m args below meth c H locs cells slots (MQ below (q_Q D cA z0 none Z M') args s cells slots (fun q => z0 ≤ q)) (F0 m 166 ls [.int s0]) := by
  have hx := E.1
  have hb := E.2.1
  have hown := E.2.2.2.1
  have hT := E.2.2.2.2.2.2.2.1
  unfold fX7_begins_b166 at hf
  refine lv_istore (lv' := [(17, .int s0), (0, .ref h), (3, .long v3), (5, .long v5), (7, .long v7), (9, .long v9), (11, .int v11), (12, .int v12), (13, .long v13), (15, .long v15)]) hx hb dX7_begins_166 hl (by decide) rfl (fun ls hl => ?_)
  refine lv_iconst (v := 0) hx hb dX7_begins_168 (by decide) ?_
  refine lv_istore (lv' := [(18, .int (0 : Int32)), (17, .int s0), (0, .ref h), (3, .long v3), (5, .long v5), (7, .long v7), (9, .long v9), (11, .int v11), (12, .int v12), (13, .long v13), (15, .long v15)]) hx hb dX7_begins_169 hl (by decide) rfl (fun ls hl => ?_)
  obtain ⟨r_58, hr_59, hf⟩ := q_biE hf
  refine lX7_begins_171 E hR hcc h v3 v5 v7 v9 v11 v12 Z q_FU v13 v15 s0 (0 : Int32) M _ _ _ r_58 hr_59 hH (lv_sub hl [2, 3, 4, 5, 6, 7, 8, 9, 10, 1, 0] rfl) (fun v13_60 v15_61 M_62 H locs ls he_68 hH hl => ?_)
  · subst he_68
    replace hf := q_nmE (x := v13_60) rfl hf
    replace hf := q_nmE (x := v15_61) rfl hf
    replace hf := q_nmE (x := M_62) rfl hf
    exact bX7_begins_287 E hR hcc h v3 v5 v13_60 v15_61 Z M_62 _ _ _ _ hf hH (lv_sub hl [0, 1, 2, 3, 4] rfl)
def fX7_begins (h : Nat) (v1 : Int32) (v2 : Int32) (Z : q_Z) (M : q_C) : Option (q_C) :=
  q_gd (zK Z h == 17) <|
  Option.bind (fX7_seenX h (gI M h 11) (((gI M h 8).toInt64) + (((gI M h 9).toInt64) * v1.toInt64)) Z M) fun r_2 =>
  Option.bind (fX7_seenY h (gI M h 11) (((gI M h 8).toInt64) + (((gI M h 9).toInt64) * v1.toInt64)) Z M) fun r_4 =>
  Option.bind (fX7_seenX h (gI M h 12) (((gI M h 8).toInt64) + (((gI M h 9).toInt64) * v2.toInt64)) Z M) fun r_6 =>
  Option.bind (fX7_seenY h (gI M h 12) (((gI M h 8).toInt64) + (((gI M h 9).toInt64) * v2.toInt64)) Z M) fun r_8 =>
  Option.bind (gR M h 7) fun a_10 =>
  q_gd (q_ok Z a_10 1 (((5 : Int32) * (gI M h 11)) + (1 : Int32))) <|
  q_nm (gI M a_10 (((5 : Int32) * (gI M h 11)) + (1 : Int32)).toNatClampNeg) fun v11_13 =>
  Option.bind (gR M h 7) fun a_15 =>
  q_gd (q_ok Z a_15 1 (((5 : Int32) * (gI M h 12)) + (1 : Int32))) <|
  q_nm (gI M a_15 (((5 : Int32) * (gI M h 12)) + (1 : Int32)).toNatClampNeg) fun v12_18 =>
  q_gd (!(decide ((v12_18 - v11_13).toInt64 = 0))) <|
  q_nm ((r_6 - r_2) / ((v12_18 - v11_13).toInt64)) fun v13_21 =>
  q_gd (!(decide ((v12_18 - v11_13).toInt64 = 0))) <|
  q_nm ((r_8 - r_4) / ((v12_18 - v11_13).toInt64)) fun v15_24 =>
  Option.bind (fX7_isLost r_2 r_4) fun r_26 =>
  if r_26 = 0 then
    fX7_begins_b166 h r_2 r_4 r_6 r_8 v11_13 v12_18 v13_21 v15_24 (1 : Int32) Z M
  else
    fX7_begins_b166 h r_2 r_4 r_6 r_8 v11_13 v12_18 v13_21 v15_24 (0 : Int32) Z M
set_option maxHeartbeats 4000000 in
set_option maxRecDepth 100000 in
theorem bX7_begins_0 {cells slots : Nat} (E : q_E p s m meth c cX7_begins 20 RX7 none "begins" D cA) (hR : 4 ≤ R.frames ∧ 103 ≤ R.locals) (hcc : cells ≤ R.cells ∧ slots ≤ R.slots) (h : Nat) (v1 : Int32) (v2 : Int32) (Z : q_Z) (M : q_C) (H : Heap) (locs : List Loc) (ls : Array Slot) (M' : q_C) (hf : fX7_begins h v1 v2 Z M = some M') (hH : q_Hh D cA z0 s Z M H locs) (hl : lv_has ls 20 [(0, .ref h), (1, .int v1), (2, .int v2)])  : W p l e R s m args below meth c H locs cells slots (MQ below (q_Q D cA z0 none Z M') args s cells slots (fun q => z0 ≤ q)) (F0 m 0 ls []) := by
  have hx := E.1
  have hb := E.2.1
  have hown := E.2.2.2.1
  have hT := E.2.2.2.2.2.2.2.1
  unfold fX7_begins at hf
  refine lv_aload_n hx hb dX7_begins_0 rfl (lv_at hl 0 rfl) ?_
  refine lv_aload_n hx hb dX7_begins_1 rfl (lv_at hl 0 rfl) ?_
  obtain ⟨hk_1, hf⟩ := q_gdE hf
  have hk_1 := q_keq hk_1
  refine q_getI E hH (ci := 7) rfl 11 (by decide) kF_X7_44 (fun _ _ _ => rfl) hk_1 dX7_begins_2 ?_
  refine lv_aload_n hx hb dX7_begins_5 rfl (lv_at hl 0 rfl) ?_
  refine q_getI E hH (ci := 7) rfl 8 (by decide) kF_X7_35 (fun _ _ _ => rfl) hk_1 dX7_begins_6 ?_
  refine lv_i2l hx hb dX7_begins_9 rfl ?_
  refine lv_aload_n hx hb dX7_begins_10 rfl (lv_at hl 0 rfl) ?_
  refine q_getI E hH (ci := 7) rfl 9 (by decide) kF_X7_38 (fun _ _ _ => rfl) hk_1 dX7_begins_11 ?_
  refine lv_i2l hx hb dX7_begins_14 rfl ?_
  refine lv_iload_n hx hb dX7_begins_15 rfl (lv_at hl 1 rfl) ?_
  refine lv_i2l hx hb dX7_begins_16 rfl ?_
  refine lv_lmul hx hb dX7_begins_17 ?_
  refine lv_ladd hx hb dX7_begins_18 ?_
  obtain ⟨r_2, hw_3, hf⟩ := q_biE hf
  refine q_cV (As := [.int (gI M h 11), .long (((gI M h 8).toInt64) + (((gI M h 9).toInt64) * v1.toInt64))]) (rest := []) (st1 := [.long r_2]) E hH (tX7_seenX l D cA z0 h (gI M h 11) (((gI M h 8).toInt64) + (((gI M h 9).toInt64) * v1.toInt64)) Z M r_2 hw_3) mw_X7_seenX mi_X7_seenX (ci := 7) rfl ms_X7_seenX kM_X7_149 hk_1 hcc rfl rfl rfl hl.1 rfl rfl (Nat.le_of_ble_eq_true rfl) ⟨Nat.le_trans (by decide) hR.1, Nat.le_trans (by decide) hR.2⟩ dX7_begins_19 (fun H locs hH => ?_)
  refine lv_lstore_n (lv' := [(3, .long r_2), (0, .ref h), (1, .int v1), (2, .int v2)]) hx hb dX7_begins_22 rfl hl (by decide) rfl (fun ls hl => ?_)
  refine lv_aload_n hx hb dX7_begins_23 rfl (lv_at hl 1 rfl) ?_
  refine lv_aload_n hx hb dX7_begins_24 rfl (lv_at hl 1 rfl) ?_
  refine q_getI E hH (ci := 7) rfl 11 (by decide) kF_X7_44 (fun _ _ _ => rfl) hk_1 dX7_begins_25 ?_
  refine lv_aload_n hx hb dX7_begins_28 rfl (lv_at hl 1 rfl) ?_
  refine q_getI E hH (ci := 7) rfl 8 (by decide) kF_X7_35 (fun _ _ _ => rfl) hk_1 dX7_begins_29 ?_
  refine lv_i2l hx hb dX7_begins_32 rfl ?_
  refine lv_aload_n hx hb dX7_begins_33 rfl (lv_at hl 1 rfl) ?_
  refine q_getI E hH (ci := 7) rfl 9 (by decide) kF_X7_38 (fun _ _ _ => rfl) hk_1 dX7_begins_34 ?_
  refine lv_i2l hx hb dX7_begins_37 rfl ?_
  refine lv_iload_n hx hb dX7_begins_38 rfl (lv_at hl 2 rfl) ?_
  refine lv_i2l hx hb dX7_begins_39 rfl ?_
  refine lv_lmul hx hb dX7_begins_40 ?_
  refine lv_ladd hx hb dX7_begins_41 ?_
  obtain ⟨r_4, hw_5, hf⟩ := q_biE hf
  refine q_cV (As := [.int (gI M h 11), .long (((gI M h 8).toInt64) + (((gI M h 9).toInt64) * v1.toInt64))]) (rest := []) (st1 := [.long r_4]) E hH (tX7_seenY l D cA z0 h (gI M h 11) (((gI M h 8).toInt64) + (((gI M h 9).toInt64) * v1.toInt64)) Z M r_4 hw_5) mw_X7_seenY mi_X7_seenY (ci := 7) rfl ms_X7_seenY kM_X7_153 hk_1 hcc rfl rfl rfl hl.1 rfl rfl (Nat.le_of_ble_eq_true rfl) ⟨Nat.le_trans (by decide) hR.1, Nat.le_trans (by decide) hR.2⟩ dX7_begins_42 (fun H locs hH => ?_)
  refine lv_lstore (lv' := [(5, .long r_4), (3, .long r_2), (0, .ref h), (1, .int v1), (2, .int v2)]) hx hb dX7_begins_45 hl (by decide) rfl (fun ls hl => ?_)
  refine lv_aload_n hx hb dX7_begins_47 rfl (lv_at hl 2 rfl) ?_
  refine lv_aload_n hx hb dX7_begins_48 rfl (lv_at hl 2 rfl) ?_
  refine q_getI E hH (ci := 7) rfl 12 (by decide) kF_X7_47 (fun _ _ _ => rfl) hk_1 dX7_begins_49 ?_
  refine lv_aload_n hx hb dX7_begins_52 rfl (lv_at hl 2 rfl) ?_
  refine q_getI E hH (ci := 7) rfl 8 (by decide) kF_X7_35 (fun _ _ _ => rfl) hk_1 dX7_begins_53 ?_
  refine lv_i2l hx hb dX7_begins_56 rfl ?_
  refine lv_aload_n hx hb dX7_begins_57 rfl (lv_at hl 2 rfl) ?_
  refine q_getI E hH (ci := 7) rfl 9 (by decide) kF_X7_38 (fun _ _ _ => rfl) hk_1 dX7_begins_58 ?_
  refine lv_i2l hx hb dX7_begins_61 rfl ?_
  refine lv_iload_n hx hb dX7_begins_62 rfl (lv_at hl 4 rfl) ?_
  refine lv_i2l hx hb dX7_begins_63 rfl ?_
  refine lv_lmul hx hb dX7_begins_64 ?_
  refine lv_ladd hx hb dX7_begins_65 ?_
  obtain ⟨r_6, hw_7, hf⟩ := q_biE hf
  refine q_cV (As := [.int (gI M h 12), .long (((gI M h 8).toInt64) + (((gI M h 9).toInt64) * v2.toInt64))]) (rest := []) (st1 := [.long r_6]) E hH (tX7_seenX l D cA z0 h (gI M h 12) (((gI M h 8).toInt64) + (((gI M h 9).toInt64) * v2.toInt64)) Z M r_6 hw_7) mw_X7_seenX mi_X7_seenX (ci := 7) rfl ms_X7_seenX kM_X7_149 hk_1 hcc rfl rfl rfl hl.1 rfl rfl (Nat.le_of_ble_eq_true rfl) ⟨Nat.le_trans (by decide) hR.1, Nat.le_trans (by decide) hR.2⟩ dX7_begins_66 (fun H locs hH => ?_)
  refine lv_lstore (lv' := [(7, .long r_6), (5, .long r_4), (3, .long r_2), (0, .ref h), (1, .int v1), (2, .int v2)]) hx hb dX7_begins_69 hl (by decide) rfl (fun ls hl => ?_)
  refine lv_aload_n hx hb dX7_begins_71 rfl (lv_at hl 3 rfl) ?_
  refine lv_aload_n hx hb dX7_begins_72 rfl (lv_at hl 3 rfl) ?_
  refine q_getI E hH (ci := 7) rfl 12 (by decide) kF_X7_47 (fun _ _ _ => rfl) hk_1 dX7_begins_73 ?_
  refine lv_aload_n hx hb dX7_begins_76 rfl (lv_at hl 3 rfl) ?_
  refine q_getI E hH (ci := 7) rfl 8 (by decide) kF_X7_35 (fun _ _ _ => rfl) hk_1 dX7_begins_77 ?_
  refine lv_i2l hx hb dX7_begins_80 rfl ?_
  refine lv_aload_n hx hb dX7_begins_81 rfl (lv_at hl 3 rfl) ?_
  refine q_getI E hH (ci := 7) rfl 9 (by decide) kF_X7_38 (fun _ _ _ => rfl) hk_1 dX7_begins_82 ?_
  refine lv_i2l hx hb dX7_begins_85 rfl ?_
  refine lv_iload_n hx hb dX7_begins_86 rfl (lv_at hl 5 rfl) ?_
  refine lv_i2l hx hb dX7_begins_87 rfl ?_
  refine lv_lmul hx hb dX7_begins_88 ?_
  refine lv_ladd hx hb dX7_begins_89 ?_
  obtain ⟨r_8, hw_9, hf⟩ := q_biE hf
  refine q_cV (As := [.int (gI M h 12), .long (((gI M h 8).toInt64) + (((gI M h 9).toInt64) * v2.toInt64))]) (rest := []) (st1 := [.long r_8]) E hH (tX7_seenY l D cA z0 h (gI M h 12) (((gI M h 8).toInt64) + (((gI M h 9).toInt64) * v2.toInt64)) Z M r_8 hw_9) mw_X7_seenY mi_X7_seenY (ci := 7) rfl ms_X7_seenY kM_X7_153 hk_1 hcc rfl rfl rfl hl.1 rfl rfl (Nat.le_of_ble_eq_true rfl) ⟨Nat.le_trans (by decide) hR.1, Nat.le_trans (by decide) hR.2⟩ dX7_begins_90 (fun H locs hH => ?_)
  refine lv_lstore (lv' := [(9, .long r_8), (7, .long r_6), (5, .long r_4), (3, .long r_2), (0, .ref h), (1, .int v1), (2, .int v2)]) hx hb dX7_begins_93 hl (by decide) rfl (fun ls hl => ?_)
  refine lv_aload_n hx hb dX7_begins_95 rfl (lv_at hl 4 rfl) ?_
  refine q_getR E hH (ci := 7) rfl 7 (by decide) kF_X7_32 (fun _ _ _ => rfl) hk_1 dX7_begins_96 ?_
  obtain ⟨a_10, he_11, hf⟩ := q_biE hf
  rw [he_11]
  refine lv_iconst (v := 5) hx hb dX7_begins_99 (by decide) ?_
  refine lv_aload_n hx hb dX7_begins_100 rfl (lv_at hl 4 rfl) ?_
  refine q_getI E hH (ci := 7) rfl 11 (by decide) kF_X7_44 (fun _ _ _ => rfl) hk_1 dX7_begins_101 ?_
  refine lv_imul hx hb dX7_begins_104 ?_
  refine lv_iconst (v := 1) hx hb dX7_begins_105 (by decide) ?_
  refine lv_iadd hx hb dX7_begins_106 ?_
  obtain ⟨hz_12, hf⟩ := q_gdE hf
  refine q_iaload E hH hz_12 dX7_begins_107 ?_
  refine lv_topi (fun v11_13 hn_14 => ?_)
  replace hf := q_nmE hn_14 hf
  clear hn_14
  refine lv_istore (lv' := [(11, .int v11_13), (9, .long r_8), (7, .long r_6), (5, .long r_4), (3, .long r_2), (0, .ref h), (1, .int v1), (2, .int v2)]) hx hb dX7_begins_108 hl (by decide) rfl (fun ls hl => ?_)
  refine lv_aload_n hx hb dX7_begins_110 rfl (lv_at hl 5 rfl) ?_
  refine q_getR E hH (ci := 7) rfl 7 (by decide) kF_X7_32 (fun _ _ _ => rfl) hk_1 dX7_begins_111 ?_
  obtain ⟨a_15, he_16, hf⟩ := q_biE hf
  rw [he_16]
  refine lv_iconst (v := 5) hx hb dX7_begins_114 (by decide) ?_
  refine lv_aload_n hx hb dX7_begins_115 rfl (lv_at hl 5 rfl) ?_
  refine q_getI E hH (ci := 7) rfl 12 (by decide) kF_X7_47 (fun _ _ _ => rfl) hk_1 dX7_begins_116 ?_
  refine lv_imul hx hb dX7_begins_119 ?_
  refine lv_iconst (v := 1) hx hb dX7_begins_120 (by decide) ?_
  refine lv_iadd hx hb dX7_begins_121 ?_
  obtain ⟨hz_17, hf⟩ := q_gdE hf
  refine q_iaload E hH hz_17 dX7_begins_122 ?_
  refine lv_topi (fun v12_18 hn_19 => ?_)
  replace hf := q_nmE hn_19 hf
  clear hn_19
  refine lv_istore (lv' := [(12, .int v12_18), (11, .int v11_13), (9, .long r_8), (7, .long r_6), (5, .long r_4), (3, .long r_2), (0, .ref h), (1, .int v1), (2, .int v2)]) hx hb dX7_begins_123 hl (by decide) rfl (fun ls hl => ?_)
  refine lv_lload hx hb dX7_begins_125 (lv_at hl 3 rfl) ?_
  refine lv_lload_n hx hb dX7_begins_127 rfl (lv_at hl 5 rfl) ?_
  refine lv_lsub hx hb dX7_begins_128 ?_
  refine lv_iload hx hb dX7_begins_129 (lv_at hl 0 rfl) ?_
  refine lv_iload hx hb dX7_begins_131 (lv_at hl 1 rfl) ?_
  refine lv_isub hx hb dX7_begins_133 ?_
  refine lv_i2l hx hb dX7_begins_134 rfl ?_
  obtain ⟨hz_20, hf⟩ := q_gdE hf
  refine lv_ldiv hx hb dX7_begins_135 (by simpa using hz_20) ?_
  refine lv_topl (fun v13_21 hn_22 => ?_)
  replace hf := q_nmE hn_22 hf
  clear hn_22
  refine lv_lstore (lv' := [(13, .long v13_21), (12, .int v12_18), (11, .int v11_13), (9, .long r_8), (7, .long r_6), (5, .long r_4), (3, .long r_2), (0, .ref h), (1, .int v1), (2, .int v2)]) hx hb dX7_begins_136 hl (by decide) rfl (fun ls hl => ?_)
  refine lv_lload hx hb dX7_begins_138 (lv_at hl 3 rfl) ?_
  refine lv_lload hx hb dX7_begins_140 (lv_at hl 5 rfl) ?_
  refine lv_lsub hx hb dX7_begins_142 ?_
  refine lv_iload hx hb dX7_begins_143 (lv_at hl 1 rfl) ?_
  refine lv_iload hx hb dX7_begins_145 (lv_at hl 2 rfl) ?_
  refine lv_isub hx hb dX7_begins_147 ?_
  refine lv_i2l hx hb dX7_begins_148 rfl ?_
  obtain ⟨hz_23, hf⟩ := q_gdE hf
  refine lv_ldiv hx hb dX7_begins_149 (by simpa using hz_23) ?_
  refine lv_topl (fun v15_24 hn_25 => ?_)
  replace hf := q_nmE hn_25 hf
  clear hn_25
  refine lv_lstore (lv' := [(15, .long v15_24), (13, .long v13_21), (12, .int v12_18), (11, .int v11_13), (9, .long r_8), (7, .long r_6), (5, .long r_4), (3, .long r_2), (0, .ref h), (1, .int v1), (2, .int v2)]) hx hb dX7_begins_150 hl (by decide) rfl (fun ls hl => ?_)
  refine lv_lload_n hx hb dX7_begins_152 rfl (lv_at hl 7 rfl) ?_
  refine lv_lload hx hb dX7_begins_153 (lv_at hl 6 rfl) ?_
  obtain ⟨r_26, hw_27, hf⟩ := q_biE hf
  refine q_cS (As := [.long r_2, .long r_4]) (rest := []) (st1 := [.int r_26]) E hH (tX7_isLost l D cA z0 Z M r_2 r_4 r_26 hw_27) mw_X7_isLost mi_X7_isLost kM_X7_141 hcc rfl rfl rfl hl.1 rfl rfl (Nat.le_of_ble_eq_true rfl) ⟨Nat.le_trans (by decide) hR.1, Nat.le_trans (by decide) hR.2⟩ dX7_begins_155 (fun H locs hH => ?_)
  refine lv_if_ne (tgt := 165) hx hb dX7_begins_158 (by decide) (fun cc_69 => ?_) (fun cc_69 => ?_)
  · replace hf := q_ifF cc_69 hf
    clear cc_69
    refine lv_iconst (v := 0) hx hb dX7_begins_165 (by decide) ?_
    exact bX7_begins_166 E hR hcc h r_2 r_4 r_6 r_8 v11_13 v12_18 v13_21 v15_24 (0 : Int32) Z M _ _ _ _ hf hH (lv_sub hl [8, 7, 6, 5, 4, 3, 2, 1, 0] rfl)
  · replace hf := q_ifT cc_69 hf
    clear cc_69
    refine lv_iconst (v := 1) hx hb dX7_begins_161 (by decide) ?_
    refine lv_goto (tgt := 166) hx hb dX7_begins_162 (by decide) ?_
    exact bX7_begins_166 E hR hcc h r_2 r_4 r_6 r_8 v11_13 v12_18 v13_21 v15_24 (1 : Int32) Z M _ _ _ _ hf hH (lv_sub hl [8, 7, 6, 5, 4, 3, 2, 1, 0] rfl)
set_option maxRecDepth 100000 in
theorem tX7_begins (l : Launch) (D : va_G) (cA : Nat → ClassId) (z0 : Nat) (h : Nat) (v1 : Int32) (v2 : Int32) (Z : q_Z) (M : q_C) (M' : q_C) (hf : fX7_begins h v1 v2 Z M = some M') : q_Ct l D cA z0 yX7_begins cX7_begins 20 none 4 103 [.ref h, .int v1, .int v2] Z M none Z M' 0 0 := by
  (refine q_start (plainFor_of_name (by decide)) (Nat.le_of_ble_eq_true rfl) (fun p e s m below meth c H ls E hH hl => ?_); exact bX7_begins_0 E ⟨Nat.le_refl _, Nat.le_refl _⟩ ⟨Nat.le_refl _, Nat.le_refl _⟩ h _ _ Z M H [] ls M' hf hH hl)
def fX7_stores (h : Nat) (v1 : Int32) (v2 : Int32) (Z : q_Z) (M : q_C) : Option (q_C) :=
  q_nm ((((601 : Int32) * v1) + v2) + (300 : Int32)) fun v3_1 =>
  q_gd (zK Z h == 17) <|
  Option.bind (gR M h 17) fun a_4 =>
  q_gd (q_ok Z a_4 2 v3_1) <|
  q_nm (sJ M a_4 v3_1.toNatClampNeg (gJ M h 22)) fun M_7 =>
  Option.bind (gR M_7 h 18) fun a_8 =>
  q_gd (q_ok Z a_8 2 v3_1) <|
  q_nm (sJ M_7 a_8 v3_1.toNatClampNeg (gJ M_7 h 23)) fun M_11 =>
  Option.bind (gR M_11 h 19) fun a_12 =>
  q_gd (q_ok Z a_12 2 v3_1) <|
  q_nm (sJ M_11 a_12 v3_1.toNatClampNeg (gJ M_11 h 24)) fun M_15 =>
  Option.bind (gR M_15 h 20) fun a_16 =>
  q_gd (q_ok Z a_16 2 v3_1) <|
  q_nm (sJ M_15 a_16 v3_1.toNatClampNeg (gJ M_15 h 25)) fun M_19 =>
  some M_19
set_option maxHeartbeats 4000000 in
set_option maxRecDepth 100000 in
theorem bX7_stores_0 {cells slots : Nat} (E : q_E p s m meth c cX7_stores 4 RX7 none "stores" D cA) (hR : 0 ≤ R.frames ∧ 0 ≤ R.locals) (hcc : cells ≤ R.cells ∧ slots ≤ R.slots) (h : Nat) (v1 : Int32) (v2 : Int32) (Z : q_Z) (M : q_C) (H : Heap) (locs : List Loc) (ls : Array Slot) (M' : q_C) (hf : fX7_stores h v1 v2 Z M = some M') (hH : q_Hh D cA z0 s Z M H locs) (hl : lv_has ls 4 [(0, .ref h), (1, .int v1), (2, .int v2)])  : W p l e R s m args below meth c H locs cells slots (MQ below (q_Q D cA z0 none Z M') args s cells slots (fun q => z0 ≤ q)) (F0 m 0 ls []) := by
  have hx := E.1
  have hb := E.2.1
  have hown := E.2.2.2.1
  have hT := E.2.2.2.2.2.2.2.1
  unfold fX7_stores at hf
  refine lv_sipush (v := 601) hx hb dX7_stores_0 (by decide) ?_
  refine lv_iload_n hx hb dX7_stores_3 rfl (lv_at hl 1 rfl) ?_
  refine lv_imul hx hb dX7_stores_4 ?_
  refine lv_iload_n hx hb dX7_stores_5 rfl (lv_at hl 2 rfl) ?_
  refine lv_iadd hx hb dX7_stores_6 ?_
  refine lv_sipush (v := 300) hx hb dX7_stores_7 (by decide) ?_
  refine lv_iadd hx hb dX7_stores_10 ?_
  refine lv_topi (fun v3_1 hn_2 => ?_)
  replace hf := q_nmE hn_2 hf
  clear hn_2
  refine lv_istore_n (lv' := [(3, .int v3_1), (0, .ref h), (1, .int v1), (2, .int v2)]) hx hb dX7_stores_11 rfl hl (by decide) rfl (fun ls hl => ?_)
  refine lv_aload_n hx hb dX7_stores_12 rfl (lv_at hl 1 rfl) ?_
  obtain ⟨hk_3, hf⟩ := q_gdE hf
  have hk_3 := q_keq hk_3
  refine q_getR E hH (ci := 7) rfl 17 (by decide) kF_X7_63 (fun _ _ _ => rfl) hk_3 dX7_stores_13 ?_
  obtain ⟨a_4, he_5, hf⟩ := q_biE hf
  rw [he_5]
  refine lv_iload_n hx hb dX7_stores_16 rfl (lv_at hl 0 rfl) ?_
  refine lv_aload_n hx hb dX7_stores_17 rfl (lv_at hl 1 rfl) ?_
  refine q_getJ E hH (ci := 7) rfl 22 (by decide) kF_X7_79 (fun _ _ _ => rfl) hk_3 dX7_stores_18 ?_
  obtain ⟨hz_6, hf⟩ := q_gdE hf
  refine q_lastore E hH hz_6 dX7_stores_21 hf (fun M_7 H locs hH hf => ?_)
  refine lv_aload_n hx hb dX7_stores_22 rfl (lv_at hl 1 rfl) ?_
  refine q_getR E hH (ci := 7) rfl 18 (by decide) kF_X7_67 (fun _ _ _ => rfl) hk_3 dX7_stores_23 ?_
  obtain ⟨a_8, he_9, hf⟩ := q_biE hf
  rw [he_9]
  refine lv_iload_n hx hb dX7_stores_26 rfl (lv_at hl 0 rfl) ?_
  refine lv_aload_n hx hb dX7_stores_27 rfl (lv_at hl 1 rfl) ?_
  refine q_getJ E hH (ci := 7) rfl 23 (by decide) kF_X7_83 (fun _ _ _ => rfl) hk_3 dX7_stores_28 ?_
  obtain ⟨hz_10, hf⟩ := q_gdE hf
  refine q_lastore E hH hz_10 dX7_stores_31 hf (fun M_11 H locs hH hf => ?_)
  refine lv_aload_n hx hb dX7_stores_32 rfl (lv_at hl 1 rfl) ?_
  refine q_getR E hH (ci := 7) rfl 19 (by decide) kF_X7_70 (fun _ _ _ => rfl) hk_3 dX7_stores_33 ?_
  obtain ⟨a_12, he_13, hf⟩ := q_biE hf
  rw [he_13]
  refine lv_iload_n hx hb dX7_stores_36 rfl (lv_at hl 0 rfl) ?_
  refine lv_aload_n hx hb dX7_stores_37 rfl (lv_at hl 1 rfl) ?_
  refine q_getJ E hH (ci := 7) rfl 24 (by decide) kF_X7_86 (fun _ _ _ => rfl) hk_3 dX7_stores_38 ?_
  obtain ⟨hz_14, hf⟩ := q_gdE hf
  refine q_lastore E hH hz_14 dX7_stores_41 hf (fun M_15 H locs hH hf => ?_)
  refine lv_aload_n hx hb dX7_stores_42 rfl (lv_at hl 1 rfl) ?_
  refine q_getR E hH (ci := 7) rfl 20 (by decide) kF_X7_73 (fun _ _ _ => rfl) hk_3 dX7_stores_43 ?_
  obtain ⟨a_16, he_17, hf⟩ := q_biE hf
  rw [he_17]
  refine lv_iload_n hx hb dX7_stores_46 rfl (lv_at hl 0 rfl) ?_
  refine lv_aload_n hx hb dX7_stores_47 rfl (lv_at hl 1 rfl) ?_
  refine q_getJ E hH (ci := 7) rfl 25 (by decide) kF_X7_89 (fun _ _ _ => rfl) hk_3 dX7_stores_48 ?_
  obtain ⟨hz_18, hf⟩ := q_gdE hf
  refine q_lastore E hH hz_18 dX7_stores_51 hf (fun M_19 H locs hH hf => ?_)
  cases hf
  exact q_vret E hH dX7_stores_52
set_option maxRecDepth 100000 in
theorem tX7_stores (l : Launch) (D : va_G) (cA : Nat → ClassId) (z0 : Nat) (h : Nat) (v1 : Int32) (v2 : Int32) (Z : q_Z) (M : q_C) (M' : q_C) (hf : fX7_stores h v1 v2 Z M = some M') : q_Ct l D cA z0 yX7_stores cX7_stores 4 none 0 0 [.ref h, .int v1, .int v2] Z M none Z M' 0 0 := by
  (refine q_start (plainFor_of_name (by decide)) (Nat.le_of_ble_eq_true rfl) (fun p e s m below meth c H ls E hH hl => ?_); exact bX7_stores_0 E ⟨Nat.le_refl _, Nat.le_refl _⟩ ⟨Nat.le_refl _, Nat.le_refl _⟩ h _ _ Z M H [] ls M' hf hH hl)
def fX7_goesBack_b51 (h : Nat) (s0 : Int32) (Z : q_Z) (M : q_C) : Option (Int32 × q_C) :=
  q_gd (decide (s0 = 0) || decide (s0 = 1)) <|
  some (s0, M)
set_option maxHeartbeats 4000000 in
set_option maxRecDepth 100000 in
theorem bX7_goesBack_51 {cells slots : Nat} (E : q_E p s m meth c cX7_goesBack 2 RX7 (some .boolean) "goesBack" D cA) (hR : 3 ≤ R.frames ∧ 82 ≤ R.locals) (hcc : cells ≤ R.cells ∧ slots ≤ R.slots) (h : Nat) (s0 : Int32) (Z : q_Z) (M : q_C) (H : Heap) (locs : List Loc) (ls : Array Slot) (r : Int32) (M' : q_C) (hf : fX7_goesBack_b51 h s0 Z M = some (r, M')) (hH : q_Hh D cA z0 s Z M H locs) (hl : lv_has ls 2 [])  : W p l e R s m args below meth c H locs cells slots (MQ below (q_Q D cA z0 (some (.int r)) Z M') args s cells slots (fun q => z0 ≤ q)) (F0 m 51 ls [.int s0]) := by
  have hx := E.1
  have hb := E.2.1
  have hown := E.2.2.2.1
  have hT := E.2.2.2.2.2.2.2.1
  unfold fX7_goesBack_b51 at hf
  obtain ⟨hz_8, hf⟩ := q_gdE hf
  cases hf
  exact q_zret E hH hz_8 dX7_goesBack_51
def fX7_goesBack (h : Nat) (v1 : Int32) (Z : q_Z) (M : q_C) : Option (Int32 × q_C) :=
  q_gd (zK Z h == 17) <|
  Option.bind (fX7_pulls h v1 (-1 : Int32) Z M) fun M_3 =>
  q_nm (sJ M_3 h 22 ((gJ M_3 h 22) - (gJ M_3 h 24))) fun M_4 =>
  q_nm (sJ M_4 h 23 ((gJ M_4 h 23) - (gJ M_4 h 25))) fun M_5 =>
  Option.bind (fX7_isLost (gJ M_5 h 22) (gJ M_5 h 23)) fun r_6 =>
  if r_6 = 0 then
    fX7_goesBack_b51 h (1 : Int32) Z M_5
  else
    fX7_goesBack_b51 h (0 : Int32) Z M_5
set_option maxHeartbeats 4000000 in
set_option maxRecDepth 100000 in
theorem bX7_goesBack_0 {cells slots : Nat} (E : q_E p s m meth c cX7_goesBack 2 RX7 (some .boolean) "goesBack" D cA) (hR : 3 ≤ R.frames ∧ 82 ≤ R.locals) (hcc : cells ≤ R.cells ∧ slots ≤ R.slots) (h : Nat) (v1 : Int32) (Z : q_Z) (M : q_C) (H : Heap) (locs : List Loc) (ls : Array Slot) (r : Int32) (M' : q_C) (hf : fX7_goesBack h v1 Z M = some (r, M')) (hH : q_Hh D cA z0 s Z M H locs) (hl : lv_has ls 2 [(0, .ref h), (1, .int v1)])  : W p l e R s m args below meth c H locs cells slots (MQ below (q_Q D cA z0 (some (.int r)) Z M') args s cells slots (fun q => z0 ≤ q)) (F0 m 0 ls []) := by
  have hx := E.1
  have hb := E.2.1
  have hown := E.2.2.2.1
  have hT := E.2.2.2.2.2.2.2.1
  unfold fX7_goesBack at hf
  refine lv_aload_n hx hb dX7_goesBack_0 rfl (lv_at hl 0 rfl) ?_
  refine lv_iload_n hx hb dX7_goesBack_1 rfl (lv_at hl 1 rfl) ?_
  refine lv_iconst (v := -1) hx hb dX7_goesBack_2 (by decide) ?_
  obtain ⟨hk_1, hf⟩ := q_gdE hf
  have hk_1 := q_keq hk_1
  obtain ⟨M_3, hw_2, hf⟩ := q_biE hf
  refine q_cV (As := [.int v1, .int (-1 : Int32)]) (rest := []) (st1 := []) E hH (tX7_pulls l D cA z0 h v1 (-1 : Int32) Z M M_3 hw_2) mw_X7_pulls mi_X7_pulls (ci := 7) rfl ms_X7_pulls kM_X7_145 hk_1 hcc rfl rfl rfl hl.1 rfl rfl (Nat.le_of_ble_eq_true rfl) ⟨Nat.le_trans (by decide) hR.1, Nat.le_trans (by decide) hR.2⟩ dX7_goesBack_3 (fun H locs hH => ?_)
  refine lv_aload_n hx hb dX7_goesBack_6 rfl (lv_at hl 0 rfl) ?_
  refine lv_dup hx hb dX7_goesBack_7 rfl ?_
  refine q_getJ E hH (ci := 7) rfl 22 (by decide) kF_X7_79 (fun _ _ _ => rfl) hk_1 dX7_goesBack_8 ?_
  refine lv_aload_n hx hb dX7_goesBack_11 rfl (lv_at hl 0 rfl) ?_
  refine q_getJ E hH (ci := 7) rfl 24 (by decide) kF_X7_86 (fun _ _ _ => rfl) hk_1 dX7_goesBack_12 ?_
  refine lv_lsub hx hb dX7_goesBack_15 ?_
  refine q_putJ E hH (ci := 7) rfl 22 (by decide) kF_X7_79 rfl (fun _ _ _ => rfl) (x := (gJ M_3 h 22) - (gJ M_3 h 24)) hk_1 rfl rfl dX7_goesBack_16 hf (fun M_4 H locs hH hf => ?_)
  refine lv_aload_n hx hb dX7_goesBack_19 rfl (lv_at hl 0 rfl) ?_
  refine lv_dup hx hb dX7_goesBack_20 rfl ?_
  refine q_getJ E hH (ci := 7) rfl 23 (by decide) kF_X7_83 (fun _ _ _ => rfl) hk_1 dX7_goesBack_21 ?_
  refine lv_aload_n hx hb dX7_goesBack_24 rfl (lv_at hl 0 rfl) ?_
  refine q_getJ E hH (ci := 7) rfl 25 (by decide) kF_X7_89 (fun _ _ _ => rfl) hk_1 dX7_goesBack_25 ?_
  refine lv_lsub hx hb dX7_goesBack_28 ?_
  refine q_putJ E hH (ci := 7) rfl 23 (by decide) kF_X7_83 rfl (fun _ _ _ => rfl) (x := (gJ M_4 h 23) - (gJ M_4 h 25)) hk_1 rfl rfl dX7_goesBack_29 hf (fun M_5 H locs hH hf => ?_)
  refine lv_aload_n hx hb dX7_goesBack_32 rfl (lv_at hl 0 rfl) ?_
  refine q_getJ E hH (ci := 7) rfl 22 (by decide) kF_X7_79 (fun _ _ _ => rfl) hk_1 dX7_goesBack_33 ?_
  refine lv_aload_n hx hb dX7_goesBack_36 rfl (lv_at hl 0 rfl) ?_
  refine q_getJ E hH (ci := 7) rfl 23 (by decide) kF_X7_83 (fun _ _ _ => rfl) hk_1 dX7_goesBack_37 ?_
  obtain ⟨r_6, hw_7, hf⟩ := q_biE hf
  refine q_cS (As := [.long (gJ M_5 h 22), .long (gJ M_5 h 23)]) (rest := []) (st1 := [.int r_6]) E hH (tX7_isLost l D cA z0 Z M_5 (gJ M_5 h 22) (gJ M_5 h 23) r_6 hw_7) mw_X7_isLost mi_X7_isLost kM_X7_141 hcc rfl rfl rfl hl.1 rfl rfl (Nat.le_of_ble_eq_true rfl) ⟨Nat.le_trans (by decide) hR.1, Nat.le_trans (by decide) hR.2⟩ dX7_goesBack_40 (fun H locs hH => ?_)
  refine lv_if_ne (tgt := 50) hx hb dX7_goesBack_43 (by decide) (fun cc_9 => ?_) (fun cc_9 => ?_)
  · replace hf := q_ifF cc_9 hf
    clear cc_9
    refine lv_iconst (v := 0) hx hb dX7_goesBack_50 (by decide) ?_
    exact bX7_goesBack_51 E hR hcc h (0 : Int32) Z M_5 _ _ _ _ _ hf hH (lv_sub hl [] rfl)
  · replace hf := q_ifT cc_9 hf
    clear cc_9
    refine lv_iconst (v := 1) hx hb dX7_goesBack_46 (by decide) ?_
    refine lv_goto (tgt := 51) hx hb dX7_goesBack_47 (by decide) ?_
    exact bX7_goesBack_51 E hR hcc h (1 : Int32) Z M_5 _ _ _ _ _ hf hH (lv_sub hl [] rfl)
set_option maxRecDepth 100000 in
theorem tX7_goesBack (l : Launch) (D : va_G) (cA : Nat → ClassId) (z0 : Nat) (h : Nat) (v1 : Int32) (Z : q_Z) (M : q_C) (r : Int32) (M' : q_C) (hf : fX7_goesBack h v1 Z M = some (r, M')) : q_Ct l D cA z0 yX7_goesBack cX7_goesBack 2 (some .boolean) 3 82 [.ref h, .int v1] Z M (some (.int r)) Z M' 0 0 := by
  (refine q_start (plainFor_of_name (by decide)) (Nat.le_of_ble_eq_true rfl) (fun p e s m below meth c H ls E hH hl => ?_); exact bX7_goesBack_0 E ⟨Nat.le_refl _, Nat.le_refl _⟩ ⟨Nat.le_refl _, Nat.le_refl _⟩ h _ Z M H [] ls r M' hf hH hl)
def fX7_follows_b128 (h : Nat) (v1 : Int32) (v2 : Int32) (v3 : Int64) (v5 : Int64) (v7 : Int64) (v9 : Int64) (v11 : Int32) (v12 : Int32) (Z : q_Z) (M : q_C) : Option ((Int32 × Int32 × q_C) ⊕ q_C) :=
  q_nm (v12 + (1 : Int32)) fun v12_36 =>
  some (Sum.inl (v11, v12_36, M))
set_option maxHeartbeats 4000000 in
set_option maxRecDepth 100000 in
theorem bX7_follows_128 {cells slots : Nat} {Q : State → Prop} (E : q_E p s m meth c cX7_follows 13 RX7 none "follows" D cA) (hR : 4 ≤ R.frames ∧ 103 ≤ R.locals) (hcc : cells ≤ R.cells ∧ slots ≤ R.slots) (h : Nat) (v1 : Int32) (v2 : Int32) (v3 : Int64) (v5 : Int64) (v7 : Int64) (v9 : Int64) (v11 : Int32) (v12 : Int32) (Z : q_Z) (M : q_C) (H : Heap) (locs : List Loc) (ls : Array Slot) (o : (Int32 × Int32 × q_C) ⊕ q_C) (hf : fX7_follows_b128 h v1 v2 v3 v5 v7 v9 v11 v12 Z M = some o) (hH : q_Hh D cA z0 s Z M H locs) (hl : lv_has ls 13 [(0, .ref h), (1, .int v1), (2, .int v2), (3, .long v3), (5, .long v5), (7, .long v7), (9, .long v9), (11, .int v11), (12, .int v12)]) (kb : ∀ (w11 : Int32) (w12 : Int32) (M1 : q_C) (H : Heap) (locs : List Loc) (ls : Array Slot), Sum.inl (w11, w12, M1) = o → q_Hh D cA z0 s Z M1 H locs → lv_has ls 13 [(0, .ref h), (1, .int v1), (2, .int v2), (3, .long v3), (5, .long v5), (7, .long v7), (9, .long v9), (11, .int w11), (12, .int w12)] → W p l e R s m args below meth c H locs cells slots Q (F0 m 76 ls [])) (kx0 : ∀ (M1 : q_C) (H : Heap) (locs : List Loc) (ls : Array Slot), Sum.inr M1 = o → q_Hh D cA z0 s Z M1 H locs → lv_has ls 13 [(0, .ref h), (1, .int v1), (2, .int v2), (3, .long v3), (5, .long v5), (7, .long v7), (9, .long v9)] → W p l e R s m args below meth c H locs cells slots Q (F0 m 134 ls [])) : W p l e R s m args below meth c H locs cells slots Q (F0 m 128 ls []) := by
  have hx := E.1
  have hb := E.2.1
  have hown := E.2.2.2.1
  have hT := E.2.2.2.2.2.2.2.1
  unfold fX7_follows_b128 at hf
  obtain ⟨v12_36, hn_37⟩ : ∃ y : Int32, y = v12 + (1 : Int32) := ⟨_, rfl⟩
  replace hf := q_nmE hn_37 hf
  refine lv_iinc (v := v12_36) (lv' := [(12, .int v12_36), (0, .ref h), (1, .int v1), (2, .int v2), (3, .long v3), (5, .long v5), (7, .long v7), (9, .long v9), (11, .int v11)]) hx hb dX7_follows_128 hl (k := 8) rfl (by rw [hn_37]; rfl) (by decide) rfl (fun ls hl => ?_)
  clear hn_37
  refine lv_goto (tgt := 76) hx hb dX7_follows_131 (by decide) ?_
  cases hf
  exact kb v11 v12_36 M _ _ _ rfl hH (lv_sub hl [1, 2, 3, 4, 5, 6, 7, 8, 0] rfl)
def fX7_follows_L76 (h : Nat) (v1 : Int32) (v2 : Int32) (v3 : Int64) (v5 : Int64) (v7 : Int64) (v9 : Int64) (v11 : Int32) (v12 : Int32) (Z : q_Z) (M : q_C) : Option ((Int32 × Int32 × q_C) ⊕ q_C) :=
  if (300 : Int32) ≤ v12 then
    some (Sum.inr M)
  else
    if v11 = 0 then
      some (Sum.inr M)
    else
      q_gd (zK Z h == 17) <|
      q_b2 (fX7_goesOn h v12 Z M) fun r_27 M_29 =>
      if r_27 = 0 then
        fX7_follows_b128 h v1 v2 v3 v5 v7 v9 r_27 v12 Z M_29
      else
        Option.bind (fX7_stores h v1 (v12 + (1 : Int32)) Z M_29) fun M_31 =>
        Option.bind (gR M_31 h 16) fun a_32 =>
        q_gd (q_ok Z a_32 1 (((2 : Int32) * v1) + (1 : Int32))) <|
        q_nm (sI M_31 a_32 (((2 : Int32) * v1) + (1 : Int32)).toNatClampNeg (v12 + (1 : Int32))) fun M_35 =>
        fX7_follows_b128 h v1 v2 v3 v5 v7 v9 r_27 v12 Z M_35
set_option maxHeartbeats 4000000 in
set_option maxRecDepth 100000 in
theorem lX7_follows_76 {cells slots : Nat} {Q : State → Prop} (E : q_E p s m meth c cX7_follows 13 RX7 none "follows" D cA) (hR : 4 ≤ R.frames ∧ 103 ≤ R.locals) (hcc : cells ≤ R.cells ∧ slots ≤ R.slots)  (h : Nat) (v1 : Int32) (v2 : Int32) (v3 : Int64) (v5 : Int64) (v7 : Int64) (v9 : Int64) (Z : q_Z) : ∀ (n : Nat) (v11 : Int32) (v12 : Int32) (M : q_C) (H : Heap) (locs : List Loc) (ls : Array Slot) (r : q_C), q_it (fun x => fX7_follows_L76 h v1 v2 v3 v5 v7 v9 x.1 x.2.1 Z x.2.2) n (v11, v12, M) = some r → q_Hh D cA z0 s Z M H locs → lv_has ls 13 [(0, .ref h), (1, .int v1), (2, .int v2), (3, .long v3), (5, .long v5), (7, .long v7), (9, .long v9), (11, .int v11), (12, .int v12)] → (kx0 : ∀ (M1 : q_C) (H : Heap) (locs : List Loc) (ls : Array Slot), M1 = r → q_Hh D cA z0 s Z M1 H locs → lv_has ls 13 [(0, .ref h), (1, .int v1), (2, .int v2), (3, .long v3), (5, .long v5), (7, .long v7), (9, .long v9)] → W p l e R s m args below meth c H locs cells slots Q (F0 m 134 ls [])) → W p l e R s m args below meth c H locs cells slots Q (F0 m 76 ls []) := by
  have hx := E.1
  have hb := E.2.1
  have hown := E.2.2.2.1
  have hT := E.2.2.2.2.2.2.2.1
  intro n
  induction n with
  | zero =>
    intro v11 v12 M H locs ls r hf
    cases hf
  | succ n ih =>
    intro v11 v12 M H locs ls r hf hH hl ky0
    obtain ⟨n1, o, hn, hf, ho⟩ := q_itE hf
    cases hn
    have hf : fX7_follows_L76 h v1 v2 v3 v5 v7 v9 v11 v12 Z M = some o := hf
    have kb : ∀ (w11 : Int32) (w12 : Int32) (M1 : q_C) (H : Heap) (locs : List Loc) (ls : Array Slot), Sum.inl (w11, w12, M1) = o → q_Hh D cA z0 s Z M1 H locs → lv_has ls 13 [(0, .ref h), (1, .int v1), (2, .int v2), (3, .long v3), (5, .long v5), (7, .long v7), (9, .long v9), (11, .int w11), (12, .int w12)] → W p l e R s m args below meth c H locs cells slots Q (F0 m 76 ls []) := by
      intro w11 w12 M1 H locs ls e hH hl
      subst e
      exact ih w11 w12 M1 H locs ls r ho hH hl ky0
    have kx0 : ∀ (M1 : q_C) (H : Heap) (locs : List Loc) (ls : Array Slot), Sum.inr M1 = o → q_Hh D cA z0 s Z M1 H locs → lv_has ls 13 [(0, .ref h), (1, .int v1), (2, .int v2), (3, .long v3), (5, .long v5), (7, .long v7), (9, .long v9)] → W p l e R s m args below meth c H locs cells slots Q (F0 m 134 ls []) := by
      intro M1 H locs ls e hH hl
      subst e
      exact ky0 M1 H locs ls ho hH hl
    unfold fX7_follows_L76 at hf
    refine lv_iload hx hb dX7_follows_76 (lv_at hl 8 rfl) ?_
    refine lv_sipush (v := 300) hx hb dX7_follows_78 (by decide) ?_
    refine lv_icmp_ge (tgt := 134) hx hb dX7_follows_81 (by decide) (fun cc_40 => ?_) (fun cc_40 => ?_)
    · replace hf := q_ifT cc_40 hf
      clear cc_40
      cases hf
      exact kx0 M _ _ _ rfl hH (lv_sub hl [0, 1, 2, 3, 4, 5, 6] rfl)
    · replace hf := q_ifF cc_40 hf
      clear cc_40
      refine lv_iload hx hb dX7_follows_84 (lv_at hl 7 rfl) ?_
      refine lv_if_eq (tgt := 134) hx hb dX7_follows_86 (by decide) (fun cc_39 => ?_) (fun cc_39 => ?_)
      · replace hf := q_ifT cc_39 hf
        clear cc_39
        cases hf
        exact kx0 M _ _ _ rfl hH (lv_sub hl [0, 1, 2, 3, 4, 5, 6] rfl)
      · replace hf := q_ifF cc_39 hf
        clear cc_39
        refine lv_aload_n hx hb dX7_follows_89 rfl (lv_at hl 0 rfl) ?_
        refine lv_iload hx hb dX7_follows_90 (lv_at hl 8 rfl) ?_
        obtain ⟨hk_26, hf⟩ := q_gdE hf
        have hk_26 := q_keq hk_26
        obtain ⟨r_27, M_29, hw_28, hf⟩ := q_b2E hf
        refine q_cV (As := [.int v12]) (rest := []) (st1 := [.int r_27]) E hH (tX7_goesOn l D cA z0 h v12 Z M r_27 M_29 hw_28) mw_X7_goesOn mi_X7_goesOn (ci := 7) rfl ms_X7_goesOn kM_X7_156 hk_26 hcc rfl rfl rfl hl.1 rfl rfl (Nat.le_of_ble_eq_true rfl) ⟨Nat.le_trans (by decide) hR.1, Nat.le_trans (by decide) hR.2⟩ dX7_follows_92 (fun H locs hH => ?_)
        refine lv_istore (lv' := [(11, .int r_27), (0, .ref h), (1, .int v1), (2, .int v2), (3, .long v3), (5, .long v5), (7, .long v7), (9, .long v9), (12, .int v12)]) hx hb dX7_follows_95 hl (by decide) rfl (fun ls hl => ?_)
        refine lv_iload hx hb dX7_follows_97 (lv_at hl 0 rfl) ?_
        refine lv_if_ne (tgt := 105) hx hb dX7_follows_99 (by decide) (fun cc_38 => ?_) (fun cc_38 => ?_)
        · replace hf := q_ifF cc_38 hf
          clear cc_38
          refine lv_aload_n hx hb dX7_follows_105 rfl (lv_at hl 1 rfl) ?_
          refine lv_iload_n hx hb dX7_follows_106 rfl (lv_at hl 2 rfl) ?_
          refine lv_iload hx hb dX7_follows_107 (lv_at hl 8 rfl) ?_
          refine lv_iconst (v := 1) hx hb dX7_follows_109 (by decide) ?_
          refine lv_iadd hx hb dX7_follows_110 ?_
          obtain ⟨M_31, hw_30, hf⟩ := q_biE hf
          refine q_cV (As := [.int v1, .int (v12 + (1 : Int32))]) (rest := []) (st1 := []) E hH (tX7_stores l D cA z0 h v1 (v12 + (1 : Int32)) Z M_29 M_31 hw_30) mw_X7_stores mi_X7_stores (ci := 7) rfl ms_X7_stores kM_X7_159 hk_26 hcc rfl rfl rfl hl.1 rfl rfl (Nat.le_of_ble_eq_true rfl) ⟨Nat.le_trans (by decide) hR.1, Nat.le_trans (by decide) hR.2⟩ dX7_follows_111 (fun H locs hH => ?_)
          refine lv_aload_n hx hb dX7_follows_114 rfl (lv_at hl 1 rfl) ?_
          refine q_getR E hH (ci := 7) rfl 16 (by decide) kF_X7_59 (fun _ _ _ => rfl) hk_26 dX7_follows_115 ?_
          obtain ⟨a_32, he_33, hf⟩ := q_biE hf
          rw [he_33]
          refine lv_iconst (v := 2) hx hb dX7_follows_118 (by decide) ?_
          refine lv_iload_n hx hb dX7_follows_119 rfl (lv_at hl 2 rfl) ?_
          refine lv_imul hx hb dX7_follows_120 ?_
          refine lv_iconst (v := 1) hx hb dX7_follows_121 (by decide) ?_
          refine lv_iadd hx hb dX7_follows_122 ?_
          refine lv_iload hx hb dX7_follows_123 (lv_at hl 8 rfl) ?_
          refine lv_iconst (v := 1) hx hb dX7_follows_125 (by decide) ?_
          refine lv_iadd hx hb dX7_follows_126 ?_
          obtain ⟨hz_34, hf⟩ := q_gdE hf
          refine q_iastore E hH hz_34 dX7_follows_127 hf (fun M_35 H locs hH hf => ?_)
          exact bX7_follows_128 E hR hcc h v1 v2 v3 v5 v7 v9 r_27 v12 Z M_35 _ _ _ _ hf hH (lv_sub hl [1, 2, 3, 4, 5, 6, 7, 0, 8] rfl) kb kx0
        · replace hf := q_ifT cc_38 hf
          clear cc_38
          refine lv_goto (tgt := 128) hx hb dX7_follows_102 (by decide) ?_
          exact bX7_follows_128 E hR hcc h v1 v2 v3 v5 v7 v9 r_27 v12 Z M_29 _ _ _ _ hf hH (lv_sub hl [1, 2, 3, 4, 5, 6, 7, 0, 8] rfl) kb kx0
def fX7_follows_b213 (h : Nat) (v1 : Int32) (v11 : Int32) (v12 : Int32) (Z : q_Z) (M : q_C) : Option ((Int32 × Int32 × q_C) ⊕ q_C) :=
  q_nm (v12 + (-1 : Int32)) fun v12_59 =>
  some (Sum.inl (v11, v12_59, M))
set_option maxHeartbeats 4000000 in
set_option maxRecDepth 100000 in
theorem bX7_follows_213 {cells slots : Nat} {Q : State → Prop} (E : q_E p s m meth c cX7_follows 13 RX7 none "follows" D cA) (hR : 4 ≤ R.frames ∧ 103 ≤ R.locals) (hcc : cells ≤ R.cells ∧ slots ≤ R.slots) (h : Nat) (v1 : Int32) (v11 : Int32) (v12 : Int32) (Z : q_Z) (M : q_C) (H : Heap) (locs : List Loc) (ls : Array Slot) (o : (Int32 × Int32 × q_C) ⊕ q_C) (hf : fX7_follows_b213 h v1 v11 v12 Z M = some o) (hH : q_Hh D cA z0 s Z M H locs) (hl : lv_has ls 13 [(0, .ref h), (1, .int v1), (11, .int v11), (12, .int v12)]) (kb : ∀ (w11 : Int32) (w12 : Int32) (M1 : q_C) (H : Heap) (locs : List Loc) (ls : Array Slot), Sum.inl (w11, w12, M1) = o → q_Hh D cA z0 s Z M1 H locs → lv_has ls 13 [(0, .ref h), (1, .int v1), (11, .int w11), (12, .int w12)] → W p l e R s m args below meth c H locs cells slots Q (F0 m 163 ls [])) (kx0 : ∀ (M1 : q_C) (H : Heap) (locs : List Loc) (ls : Array Slot), Sum.inr M1 = o → q_Hh D cA z0 s Z M1 H locs → lv_has ls 13 [] → W p l e R s m args below meth c H locs cells slots Q (F0 m 219 ls [])) : W p l e R s m args below meth c H locs cells slots Q (F0 m 213 ls []) := by
  have hx := E.1
  have hb := E.2.1
  have hown := E.2.2.2.1
  have hT := E.2.2.2.2.2.2.2.1
  unfold fX7_follows_b213 at hf
  obtain ⟨v12_59, hn_60⟩ : ∃ y : Int32, y = v12 + (-1 : Int32) := ⟨_, rfl⟩
  replace hf := q_nmE hn_60 hf
  refine lv_iinc (v := v12_59) (lv' := [(12, .int v12_59), (0, .ref h), (1, .int v1), (11, .int v11)]) hx hb dX7_follows_213 hl (k := 3) rfl (by rw [hn_60]; rfl) (by decide) rfl (fun ls hl => ?_)
  clear hn_60
  refine lv_goto (tgt := 163) hx hb dX7_follows_216 (by decide) ?_
  cases hf
  exact kb v11 v12_59 M _ _ _ rfl hH (lv_sub hl [1, 2, 3, 0] rfl)
def fX7_follows_L163 (h : Nat) (v1 : Int32) (v11 : Int32) (v12 : Int32) (Z : q_Z) (M : q_C) : Option ((Int32 × Int32 × q_C) ⊕ q_C) :=
  if v12 ≤ (-300 : Int32) then
    some (Sum.inr M)
  else
    if v11 = 0 then
      some (Sum.inr M)
    else
      q_gd (zK Z h == 17) <|
      q_b2 (fX7_goesBack h v12 Z M) fun r_50 M_52 =>
      if r_50 = 0 then
        fX7_follows_b213 h v1 r_50 v12 Z M_52
      else
        Option.bind (fX7_stores h v1 (v12 - (1 : Int32)) Z M_52) fun M_54 =>
        Option.bind (gR M_54 h 16) fun a_55 =>
        q_gd (q_ok Z a_55 1 ((2 : Int32) * v1)) <|
        q_nm (sI M_54 a_55 ((2 : Int32) * v1).toNatClampNeg (v12 - (1 : Int32))) fun M_58 =>
        fX7_follows_b213 h v1 r_50 v12 Z M_58
set_option maxHeartbeats 4000000 in
set_option maxRecDepth 100000 in
theorem lX7_follows_163 {cells slots : Nat} {Q : State → Prop} (E : q_E p s m meth c cX7_follows 13 RX7 none "follows" D cA) (hR : 4 ≤ R.frames ∧ 103 ≤ R.locals) (hcc : cells ≤ R.cells ∧ slots ≤ R.slots)  (h : Nat) (v1 : Int32) (Z : q_Z) : ∀ (n : Nat) (v11 : Int32) (v12 : Int32) (M : q_C) (H : Heap) (locs : List Loc) (ls : Array Slot) (r : q_C), q_it (fun x => fX7_follows_L163 h v1 x.1 x.2.1 Z x.2.2) n (v11, v12, M) = some r → q_Hh D cA z0 s Z M H locs → lv_has ls 13 [(0, .ref h), (1, .int v1), (11, .int v11), (12, .int v12)] → (kx0 : ∀ (M1 : q_C) (H : Heap) (locs : List Loc) (ls : Array Slot), M1 = r → q_Hh D cA z0 s Z M1 H locs → lv_has ls 13 [] → W p l e R s m args below meth c H locs cells slots Q (F0 m 219 ls [])) → W p l e R s m args below meth c H locs cells slots Q (F0 m 163 ls []) := by
  have hx := E.1
  have hb := E.2.1
  have hown := E.2.2.2.1
  have hT := E.2.2.2.2.2.2.2.1
  intro n
  induction n with
  | zero =>
    intro v11 v12 M H locs ls r hf
    cases hf
  | succ n ih =>
    intro v11 v12 M H locs ls r hf hH hl ky0
    obtain ⟨n1, o, hn, hf, ho⟩ := q_itE hf
    cases hn
    have hf : fX7_follows_L163 h v1 v11 v12 Z M = some o := hf
    have kb : ∀ (w11 : Int32) (w12 : Int32) (M1 : q_C) (H : Heap) (locs : List Loc) (ls : Array Slot), Sum.inl (w11, w12, M1) = o → q_Hh D cA z0 s Z M1 H locs → lv_has ls 13 [(0, .ref h), (1, .int v1), (11, .int w11), (12, .int w12)] → W p l e R s m args below meth c H locs cells slots Q (F0 m 163 ls []) := by
      intro w11 w12 M1 H locs ls e hH hl
      subst e
      exact ih w11 w12 M1 H locs ls r ho hH hl ky0
    have kx0 : ∀ (M1 : q_C) (H : Heap) (locs : List Loc) (ls : Array Slot), Sum.inr M1 = o → q_Hh D cA z0 s Z M1 H locs → lv_has ls 13 [] → W p l e R s m args below meth c H locs cells slots Q (F0 m 219 ls []) := by
      intro M1 H locs ls e hH hl
      subst e
      exact ky0 M1 H locs ls ho hH hl
    unfold fX7_follows_L163 at hf
    refine lv_iload hx hb dX7_follows_163 (lv_at hl 3 rfl) ?_
    refine lv_sipush (v := -300) hx hb dX7_follows_165 (by decide) ?_
    refine lv_icmp_le (tgt := 219) hx hb dX7_follows_168 (by decide) (fun cc_63 => ?_) (fun cc_63 => ?_)
    · replace hf := q_ifT cc_63 hf
      clear cc_63
      cases hf
      exact kx0 M _ _ _ rfl hH (lv_sub hl [] rfl)
    · replace hf := q_ifF cc_63 hf
      clear cc_63
      refine lv_iload hx hb dX7_follows_171 (lv_at hl 2 rfl) ?_
      refine lv_if_eq (tgt := 219) hx hb dX7_follows_173 (by decide) (fun cc_62 => ?_) (fun cc_62 => ?_)
      · replace hf := q_ifT cc_62 hf
        clear cc_62
        cases hf
        exact kx0 M _ _ _ rfl hH (lv_sub hl [] rfl)
      · replace hf := q_ifF cc_62 hf
        clear cc_62
        refine lv_aload_n hx hb dX7_follows_176 rfl (lv_at hl 0 rfl) ?_
        refine lv_iload hx hb dX7_follows_177 (lv_at hl 3 rfl) ?_
        obtain ⟨hk_49, hf⟩ := q_gdE hf
        have hk_49 := q_keq hk_49
        obtain ⟨r_50, M_52, hw_51, hf⟩ := q_b2E hf
        refine q_cV (As := [.int v12]) (rest := []) (st1 := [.int r_50]) E hH (tX7_goesBack l D cA z0 h v12 Z M r_50 M_52 hw_51) mw_X7_goesBack mi_X7_goesBack (ci := 7) rfl ms_X7_goesBack kM_X7_162 hk_49 hcc rfl rfl rfl hl.1 rfl rfl (Nat.le_of_ble_eq_true rfl) ⟨Nat.le_trans (by decide) hR.1, Nat.le_trans (by decide) hR.2⟩ dX7_follows_179 (fun H locs hH => ?_)
        refine lv_istore (lv' := [(11, .int r_50), (0, .ref h), (1, .int v1), (12, .int v12)]) hx hb dX7_follows_182 hl (by decide) rfl (fun ls hl => ?_)
        refine lv_iload hx hb dX7_follows_184 (lv_at hl 0 rfl) ?_
        refine lv_if_ne (tgt := 192) hx hb dX7_follows_186 (by decide) (fun cc_61 => ?_) (fun cc_61 => ?_)
        · replace hf := q_ifF cc_61 hf
          clear cc_61
          refine lv_aload_n hx hb dX7_follows_192 rfl (lv_at hl 1 rfl) ?_
          refine lv_iload_n hx hb dX7_follows_193 rfl (lv_at hl 2 rfl) ?_
          refine lv_iload hx hb dX7_follows_194 (lv_at hl 3 rfl) ?_
          refine lv_iconst (v := 1) hx hb dX7_follows_196 (by decide) ?_
          refine lv_isub hx hb dX7_follows_197 ?_
          obtain ⟨M_54, hw_53, hf⟩ := q_biE hf
          refine q_cV (As := [.int v1, .int (v12 - (1 : Int32))]) (rest := []) (st1 := []) E hH (tX7_stores l D cA z0 h v1 (v12 - (1 : Int32)) Z M_52 M_54 hw_53) mw_X7_stores mi_X7_stores (ci := 7) rfl ms_X7_stores kM_X7_159 hk_49 hcc rfl rfl rfl hl.1 rfl rfl (Nat.le_of_ble_eq_true rfl) ⟨Nat.le_trans (by decide) hR.1, Nat.le_trans (by decide) hR.2⟩ dX7_follows_198 (fun H locs hH => ?_)
          refine lv_aload_n hx hb dX7_follows_201 rfl (lv_at hl 1 rfl) ?_
          refine q_getR E hH (ci := 7) rfl 16 (by decide) kF_X7_59 (fun _ _ _ => rfl) hk_49 dX7_follows_202 ?_
          obtain ⟨a_55, he_56, hf⟩ := q_biE hf
          rw [he_56]
          refine lv_iconst (v := 2) hx hb dX7_follows_205 (by decide) ?_
          refine lv_iload_n hx hb dX7_follows_206 rfl (lv_at hl 2 rfl) ?_
          refine lv_imul hx hb dX7_follows_207 ?_
          refine lv_iload hx hb dX7_follows_208 (lv_at hl 3 rfl) ?_
          refine lv_iconst (v := 1) hx hb dX7_follows_210 (by decide) ?_
          refine lv_isub hx hb dX7_follows_211 ?_
          obtain ⟨hz_57, hf⟩ := q_gdE hf
          refine q_iastore E hH hz_57 dX7_follows_212 hf (fun M_58 H locs hH hf => ?_)
          exact bX7_follows_213 E hR hcc h v1 r_50 v12 Z M_58 _ _ _ _ hf hH (lv_sub hl [1, 2, 0, 3] rfl) kb kx0
        · replace hf := q_ifT cc_61 hf
          clear cc_61
          refine lv_goto (tgt := 213) hx hb dX7_follows_189 (by decide) ?_
          exact bX7_follows_213 E hR hcc h v1 r_50 v12 Z M_52 _ _ _ _ hf hH (lv_sub hl [1, 2, 0, 3] rfl) kb kx0
def fX7_follows_b219 (h : Nat) (Z : q_Z) (M : q_C) : Option (q_C) :=
  some M
set_option maxHeartbeats 4000000 in
set_option maxRecDepth 100000 in
theorem bX7_follows_219 {cells slots : Nat} (E : q_E p s m meth c cX7_follows 13 RX7 none "follows" D cA) (hR : 4 ≤ R.frames ∧ 103 ≤ R.locals) (hcc : cells ≤ R.cells ∧ slots ≤ R.slots) (h : Nat) (Z : q_Z) (M : q_C) (H : Heap) (locs : List Loc) (ls : Array Slot) (M' : q_C) (hf : fX7_follows_b219 h Z M = some M') (hH : q_Hh D cA z0 s Z M H locs) (hl : lv_has ls 13 [])  : W p l e R s m args below meth c H locs cells slots (MQ below (q_Q D cA z0 none Z M') args s cells slots (fun q => z0 ≤ q)) (F0 m 219 ls []) := by
  have hx := E.1
  have hb := E.2.1
  have hown := E.2.2.2.1
  have hT := E.2.2.2.2.2.2.2.1
  unfold fX7_follows_b219 at hf
  cases hf
  exact q_vret E hH dX7_follows_219
def fX7_follows_b134 (h : Nat) (v1 : Int32) (v2 : Int32) (v3 : Int64) (v5 : Int64) (v7 : Int64) (v9 : Int64) (Z : q_Z) (M : q_C) : Option (q_C) :=
  q_gd (zK Z h == 17) <|
  q_nm (sJ M h 22 v3) fun M_45 =>
  q_nm (sJ M_45 h 23 v5) fun M_46 =>
  q_nm (sJ M_46 h 24 v7) fun M_47 =>
  q_nm (sJ M_47 h 25 v9) fun M_48 =>
  Option.bind (q_it (fun x => fX7_follows_L163 h v1 x.1 x.2.1 Z x.2.2) q_FU ((1 : Int32), v2, M_48)) fun r_64 =>
  q_nm r_64 fun M_66 =>
  fX7_follows_b219 h Z M_66
set_option maxHeartbeats 4000000 in
set_option maxRecDepth 100000 in
theorem bX7_follows_134 {cells slots : Nat} (E : q_E p s m meth c cX7_follows 13 RX7 none "follows" D cA) (hR : 4 ≤ R.frames ∧ 103 ≤ R.locals) (hcc : cells ≤ R.cells ∧ slots ≤ R.slots) (h : Nat) (v1 : Int32) (v2 : Int32) (v3 : Int64) (v5 : Int64) (v7 : Int64) (v9 : Int64) (Z : q_Z) (M : q_C) (H : Heap) (locs : List Loc) (ls : Array Slot) (M' : q_C) (hf : fX7_follows_b134 h v1 v2 v3 v5 v7 v9 Z M = some M') (hH : q_Hh D cA z0 s Z M H locs) (hl : lv_has ls 13 [(0, .ref h), (1, .int v1), (2, .int v2), (3, .long v3), (5, .long v5), (7, .long v7), (9, .long v9)])  : W p l e R s m args below meth c H locs cells slots (MQ below (q_Q D cA z0 none Z M') args s cells slots (fun q => z0 ≤ q)) (F0 m 134 ls []) := by
  have hx := E.1
  have hb := E.2.1
  have hown := E.2.2.2.1
  have hT := E.2.2.2.2.2.2.2.1
  unfold fX7_follows_b134 at hf
  refine lv_aload_n hx hb dX7_follows_134 rfl (lv_at hl 0 rfl) ?_
  refine lv_lload_n hx hb dX7_follows_135 rfl (lv_at hl 3 rfl) ?_
  obtain ⟨hk_44, hf⟩ := q_gdE hf
  have hk_44 := q_keq hk_44
  refine q_putJ E hH (ci := 7) rfl 22 (by decide) kF_X7_79 rfl (fun _ _ _ => rfl) (x := v3) hk_44 rfl rfl dX7_follows_136 hf (fun M_45 H locs hH hf => ?_)
  refine lv_aload_n hx hb dX7_follows_139 rfl (lv_at hl 0 rfl) ?_
  refine lv_lload hx hb dX7_follows_140 (lv_at hl 4 rfl) ?_
  refine q_putJ E hH (ci := 7) rfl 23 (by decide) kF_X7_83 rfl (fun _ _ _ => rfl) (x := v5) hk_44 rfl rfl dX7_follows_142 hf (fun M_46 H locs hH hf => ?_)
  refine lv_aload_n hx hb dX7_follows_145 rfl (lv_at hl 0 rfl) ?_
  refine lv_lload hx hb dX7_follows_146 (lv_at hl 5 rfl) ?_
  refine q_putJ E hH (ci := 7) rfl 24 (by decide) kF_X7_86 rfl (fun _ _ _ => rfl) (x := v7) hk_44 rfl rfl dX7_follows_148 hf (fun M_47 H locs hH hf => ?_)
  refine lv_aload_n hx hb dX7_follows_151 rfl (lv_at hl 0 rfl) ?_
  refine lv_lload hx hb dX7_follows_152 (lv_at hl 6 rfl) ?_
  refine q_putJ E hH (ci := 7) rfl 25 (by decide) kF_X7_89 rfl (fun _ _ _ => rfl) (x := v9) hk_44 rfl rfl dX7_follows_154 hf (fun M_48 H locs hH hf => ?_)
  refine lv_iconst (v := 1) hx hb dX7_follows_157 (by decide) ?_
  refine lv_istore (lv' := [(11, .int (1 : Int32)), (0, .ref h), (1, .int v1), (2, .int v2), (3, .long v3), (5, .long v5), (7, .long v7), (9, .long v9)]) hx hb dX7_follows_158 hl (by decide) rfl (fun ls hl => ?_)
  refine lv_iload_n hx hb dX7_follows_160 rfl (lv_at hl 3 rfl) ?_
  refine lv_istore (lv' := [(12, .int v2), (11, .int (1 : Int32)), (0, .ref h), (1, .int v1), (2, .int v2), (3, .long v3), (5, .long v5), (7, .long v7), (9, .long v9)]) hx hb dX7_follows_161 hl (by decide) rfl (fun ls hl => ?_)
  obtain ⟨r_64, hr_65, hf⟩ := q_biE hf
  refine lX7_follows_163 E hR hcc h v1 Z q_FU (1 : Int32) v2 M_48 _ _ _ r_64 hr_65 hH (lv_sub hl [2, 3, 1, 0] rfl) (fun M_66 H locs ls he_67 hH hl => ?_)
  · subst he_67
    replace hf := q_nmE (x := M_66) rfl hf
    exact bX7_follows_219 E hR hcc h Z M_66 _ _ _ _ hf hH (lv_sub hl [] rfl)
def fX7_follows (h : Nat) (v1 : Int32) (v2 : Int32) (Z : q_Z) (M : q_C) : Option (q_C) :=
  q_gd (zK Z h == 17) <|
  q_nm (gJ M h 22) fun v3_2 =>
  q_nm (gJ M h 23) fun v5_4 =>
  q_nm (gJ M h 24) fun v7_6 =>
  q_nm (gJ M h 25) fun v9_8 =>
  Option.bind (gR M h 16) fun a_10 =>
  q_gd (q_ok Z a_10 1 ((2 : Int32) * v1)) <|
  q_nm (sI M a_10 ((2 : Int32) * v1).toNatClampNeg (v2 + (1 : Int32))) fun M_13 =>
  Option.bind (gR M_13 h 16) fun a_14 =>
  q_gd (q_ok Z a_14 1 (((2 : Int32) * v1) + (1 : Int32))) <|
  q_nm (sI M_13 a_14 (((2 : Int32) * v1) + (1 : Int32)).toNatClampNeg v2) fun M_17 =>
  Option.bind (fX7_isLost v3_2 v5_4) fun r_18 =>
  if r_18 = 0 then
    Option.bind (gR M_17 h 16) fun a_20 =>
    q_gd (q_ok Z a_20 1 ((2 : Int32) * v1)) <|
    q_nm (sI M_17 a_20 ((2 : Int32) * v1).toNatClampNeg v2) fun M_23 =>
    Option.bind (fX7_stores h v1 v2 Z M_23) fun M_25 =>
    Option.bind (q_it (fun x => fX7_follows_L76 h v1 v2 v3_2 v5_4 v7_6 v9_8 x.1 x.2.1 Z x.2.2) q_FU ((1 : Int32), v2, M_25)) fun r_41 =>
    q_nm r_41 fun M_43 =>
    fX7_follows_b134 h v1 v2 v3_2 v5_4 v7_6 v9_8 Z M_43
  else
    some M_17
set_option maxHeartbeats 4000000 in
set_option maxRecDepth 100000 in
theorem bX7_follows_0 {cells slots : Nat} (E : q_E p s m meth c cX7_follows 13 RX7 none "follows" D cA) (hR : 4 ≤ R.frames ∧ 103 ≤ R.locals) (hcc : cells ≤ R.cells ∧ slots ≤ R.slots) (h : Nat) (v1 : Int32) (v2 : Int32) (Z : q_Z) (M : q_C) (H : Heap) (locs : List Loc) (ls : Array Slot) (M' : q_C) (hf : fX7_follows h v1 v2 Z M = some M') (hH : q_Hh D cA z0 s Z M H locs) (hl : lv_has ls 13 [(0, .ref h), (1, .int v1), (2, .int v2)])  : W p l e R s m args below meth c H locs cells slots (MQ below (q_Q D cA z0 none Z M') args s cells slots (fun q => z0 ≤ q)) (F0 m 0 ls []) := by
  have hx := E.1
  have hb := E.2.1
  have hown := E.2.2.2.1
  have hT := E.2.2.2.2.2.2.2.1
  unfold fX7_follows at hf
  refine lv_aload_n hx hb dX7_follows_0 rfl (lv_at hl 0 rfl) ?_
  obtain ⟨hk_1, hf⟩ := q_gdE hf
  have hk_1 := q_keq hk_1
  refine q_getJ E hH (ci := 7) rfl 22 (by decide) kF_X7_79 (fun _ _ _ => rfl) hk_1 dX7_follows_1 ?_
  refine lv_topl (fun v3_2 hn_3 => ?_)
  replace hf := q_nmE hn_3 hf
  clear hn_3
  refine lv_lstore_n (lv' := [(3, .long v3_2), (0, .ref h), (1, .int v1), (2, .int v2)]) hx hb dX7_follows_4 rfl hl (by decide) rfl (fun ls hl => ?_)
  refine lv_aload_n hx hb dX7_follows_5 rfl (lv_at hl 1 rfl) ?_
  refine q_getJ E hH (ci := 7) rfl 23 (by decide) kF_X7_83 (fun _ _ _ => rfl) hk_1 dX7_follows_6 ?_
  refine lv_topl (fun v5_4 hn_5 => ?_)
  replace hf := q_nmE hn_5 hf
  clear hn_5
  refine lv_lstore (lv' := [(5, .long v5_4), (3, .long v3_2), (0, .ref h), (1, .int v1), (2, .int v2)]) hx hb dX7_follows_9 hl (by decide) rfl (fun ls hl => ?_)
  refine lv_aload_n hx hb dX7_follows_11 rfl (lv_at hl 2 rfl) ?_
  refine q_getJ E hH (ci := 7) rfl 24 (by decide) kF_X7_86 (fun _ _ _ => rfl) hk_1 dX7_follows_12 ?_
  refine lv_topl (fun v7_6 hn_7 => ?_)
  replace hf := q_nmE hn_7 hf
  clear hn_7
  refine lv_lstore (lv' := [(7, .long v7_6), (5, .long v5_4), (3, .long v3_2), (0, .ref h), (1, .int v1), (2, .int v2)]) hx hb dX7_follows_15 hl (by decide) rfl (fun ls hl => ?_)
  refine lv_aload_n hx hb dX7_follows_17 rfl (lv_at hl 3 rfl) ?_
  refine q_getJ E hH (ci := 7) rfl 25 (by decide) kF_X7_89 (fun _ _ _ => rfl) hk_1 dX7_follows_18 ?_
  refine lv_topl (fun v9_8 hn_9 => ?_)
  replace hf := q_nmE hn_9 hf
  clear hn_9
  refine lv_lstore (lv' := [(9, .long v9_8), (7, .long v7_6), (5, .long v5_4), (3, .long v3_2), (0, .ref h), (1, .int v1), (2, .int v2)]) hx hb dX7_follows_21 hl (by decide) rfl (fun ls hl => ?_)
  refine lv_aload_n hx hb dX7_follows_23 rfl (lv_at hl 4 rfl) ?_
  refine q_getR E hH (ci := 7) rfl 16 (by decide) kF_X7_59 (fun _ _ _ => rfl) hk_1 dX7_follows_24 ?_
  obtain ⟨a_10, he_11, hf⟩ := q_biE hf
  rw [he_11]
  refine lv_iconst (v := 2) hx hb dX7_follows_27 (by decide) ?_
  refine lv_iload_n hx hb dX7_follows_28 rfl (lv_at hl 5 rfl) ?_
  refine lv_imul hx hb dX7_follows_29 ?_
  refine lv_iload_n hx hb dX7_follows_30 rfl (lv_at hl 6 rfl) ?_
  refine lv_iconst (v := 1) hx hb dX7_follows_31 (by decide) ?_
  refine lv_iadd hx hb dX7_follows_32 ?_
  obtain ⟨hz_12, hf⟩ := q_gdE hf
  refine q_iastore E hH hz_12 dX7_follows_33 hf (fun M_13 H locs hH hf => ?_)
  refine lv_aload_n hx hb dX7_follows_34 rfl (lv_at hl 4 rfl) ?_
  refine q_getR E hH (ci := 7) rfl 16 (by decide) kF_X7_59 (fun _ _ _ => rfl) hk_1 dX7_follows_35 ?_
  obtain ⟨a_14, he_15, hf⟩ := q_biE hf
  rw [he_15]
  refine lv_iconst (v := 2) hx hb dX7_follows_38 (by decide) ?_
  refine lv_iload_n hx hb dX7_follows_39 rfl (lv_at hl 5 rfl) ?_
  refine lv_imul hx hb dX7_follows_40 ?_
  refine lv_iconst (v := 1) hx hb dX7_follows_41 (by decide) ?_
  refine lv_iadd hx hb dX7_follows_42 ?_
  refine lv_iload_n hx hb dX7_follows_43 rfl (lv_at hl 6 rfl) ?_
  obtain ⟨hz_16, hf⟩ := q_gdE hf
  refine q_iastore E hH hz_16 dX7_follows_44 hf (fun M_17 H locs hH hf => ?_)
  refine lv_lload_n hx hb dX7_follows_45 rfl (lv_at hl 3 rfl) ?_
  refine lv_lload hx hb dX7_follows_46 (lv_at hl 2 rfl) ?_
  obtain ⟨r_18, hw_19, hf⟩ := q_biE hf
  refine q_cS (As := [.long v3_2, .long v5_4]) (rest := []) (st1 := [.int r_18]) E hH (tX7_isLost l D cA z0 Z M_17 v3_2 v5_4 r_18 hw_19) mw_X7_isLost mi_X7_isLost kM_X7_141 hcc rfl rfl rfl hl.1 rfl rfl (Nat.le_of_ble_eq_true rfl) ⟨Nat.le_trans (by decide) hR.1, Nat.le_trans (by decide) hR.2⟩ dX7_follows_48 (fun H locs hH => ?_)
  refine lv_if_eq (tgt := 55) hx hb dX7_follows_51 (by decide) (fun cc_69 => ?_) (fun cc_69 => ?_)
  · replace hf := q_ifT cc_69 hf
    clear cc_69
    refine lv_aload_n hx hb dX7_follows_55 rfl (lv_at hl 4 rfl) ?_
    refine q_getR E hH (ci := 7) rfl 16 (by decide) kF_X7_59 (fun _ _ _ => rfl) hk_1 dX7_follows_56 ?_
    obtain ⟨a_20, he_21, hf⟩ := q_biE hf
    rw [he_21]
    refine lv_iconst (v := 2) hx hb dX7_follows_59 (by decide) ?_
    refine lv_iload_n hx hb dX7_follows_60 rfl (lv_at hl 5 rfl) ?_
    refine lv_imul hx hb dX7_follows_61 ?_
    refine lv_iload_n hx hb dX7_follows_62 rfl (lv_at hl 6 rfl) ?_
    obtain ⟨hz_22, hf⟩ := q_gdE hf
    refine q_iastore E hH hz_22 dX7_follows_63 hf (fun M_23 H locs hH hf => ?_)
    refine lv_aload_n hx hb dX7_follows_64 rfl (lv_at hl 4 rfl) ?_
    refine lv_iload_n hx hb dX7_follows_65 rfl (lv_at hl 5 rfl) ?_
    refine lv_iload_n hx hb dX7_follows_66 rfl (lv_at hl 6 rfl) ?_
    obtain ⟨M_25, hw_24, hf⟩ := q_biE hf
    refine q_cV (As := [.int v1, .int v2]) (rest := []) (st1 := []) E hH (tX7_stores l D cA z0 h v1 v2 Z M_23 M_25 hw_24) mw_X7_stores mi_X7_stores (ci := 7) rfl ms_X7_stores kM_X7_159 hk_1 hcc rfl rfl rfl hl.1 rfl rfl (Nat.le_of_ble_eq_true rfl) ⟨Nat.le_trans (by decide) hR.1, Nat.le_trans (by decide) hR.2⟩ dX7_follows_67 (fun H locs hH => ?_)
    refine lv_iconst (v := 1) hx hb dX7_follows_70 (by decide) ?_
    refine lv_istore (lv' := [(11, .int (1 : Int32)), (9, .long v9_8), (7, .long v7_6), (5, .long v5_4), (3, .long v3_2), (0, .ref h), (1, .int v1), (2, .int v2)]) hx hb dX7_follows_71 hl (by decide) rfl (fun ls hl => ?_)
    refine lv_iload_n hx hb dX7_follows_73 rfl (lv_at hl 7 rfl) ?_
    refine lv_istore (lv' := [(12, .int v2), (11, .int (1 : Int32)), (9, .long v9_8), (7, .long v7_6), (5, .long v5_4), (3, .long v3_2), (0, .ref h), (1, .int v1), (2, .int v2)]) hx hb dX7_follows_74 hl (by decide) rfl (fun ls hl => ?_)
    obtain ⟨r_41, hr_42, hf⟩ := q_biE hf
    refine lX7_follows_76 E hR hcc h v1 v2 v3_2 v5_4 v7_6 v9_8 Z q_FU (1 : Int32) v2 M_25 _ _ _ r_41 hr_42 hH (lv_sub hl [6, 7, 8, 5, 4, 3, 2, 1, 0] rfl) (fun M_43 H locs ls he_68 hH hl => ?_)
    · subst he_68
      replace hf := q_nmE (x := M_43) rfl hf
      exact bX7_follows_134 E hR hcc h v1 v2 v3_2 v5_4 v7_6 v9_8 Z M_43 _ _ _ _ hf hH (lv_sub hl [0, 1, 2, 3, 4, 5, 6] rfl)
  · replace hf := q_ifF cc_69 hf
    clear cc_69
    cases hf
    exact q_vret E hH dX7_follows_54
set_option maxRecDepth 100000 in
theorem tX7_follows (l : Launch) (D : va_G) (cA : Nat → ClassId) (z0 : Nat) (h : Nat) (v1 : Int32) (v2 : Int32) (Z : q_Z) (M : q_C) (M' : q_C) (hf : fX7_follows h v1 v2 Z M = some M') : q_Ct l D cA z0 yX7_follows cX7_follows 13 none 4 103 [.ref h, .int v1, .int v2] Z M none Z M' 0 0 := by
  (refine q_start (plainFor_of_name (by decide)) (Nat.le_of_ble_eq_true rfl) (fun p e s m below meth c H ls E hH hl => ?_); exact bX7_follows_0 E ⟨Nat.le_refl _, Nat.le_refl _⟩ ⟨Nat.le_refl _, Nat.le_refl _⟩ h _ _ Z M H [] ls M' hf hH hl)
def fX7_isThere_b31 (h : Nat) (s0 : Int32) (Z : q_Z) (M : q_C) : Option (Int32) :=
  q_gd (decide (s0 = 0) || decide (s0 = 1)) <|
  some s0
set_option maxHeartbeats 4000000 in
set_option maxRecDepth 100000 in
theorem bX7_isThere_31 {cells slots : Nat} (E : q_E p s m meth c cX7_isThere 3 RX7 (some .boolean) "isThere" D cA) (hR : 0 ≤ R.frames ∧ 0 ≤ R.locals) (hcc : cells ≤ R.cells ∧ slots ≤ R.slots) (h : Nat) (s0 : Int32) (Z : q_Z) (M : q_C) (H : Heap) (locs : List Loc) (ls : Array Slot) (r : Int32) (hf : fX7_isThere_b31 h s0 Z M = some r) (hH : q_Hh D cA z0 s Z M H locs) (hl : lv_has ls 3 [])  : W p l e R s m args below meth c H locs cells slots (MQ below (q_Q D cA z0 (some (.int r)) Z M) args s cells slots (fun q => z0 ≤ q)) (F0 m 31 ls [.int s0]) := by
  have hx := E.1
  have hb := E.2.1
  have hown := E.2.2.2.1
  have hT := E.2.2.2.2.2.2.2.1
  unfold fX7_isThere_b31 at hf
  obtain ⟨hz_5, hf⟩ := q_gdE hf
  cases hf
  exact q_zret E hH hz_5 dX7_isThere_31
def fX7_isThere_b30 (h : Nat) (Z : q_Z) (M : q_C) : Option (Int32) :=
  fX7_isThere_b31 h (0 : Int32) Z M
set_option maxHeartbeats 4000000 in
set_option maxRecDepth 100000 in
theorem bX7_isThere_30 {cells slots : Nat} (E : q_E p s m meth c cX7_isThere 3 RX7 (some .boolean) "isThere" D cA) (hR : 0 ≤ R.frames ∧ 0 ≤ R.locals) (hcc : cells ≤ R.cells ∧ slots ≤ R.slots) (h : Nat) (Z : q_Z) (M : q_C) (H : Heap) (locs : List Loc) (ls : Array Slot) (r : Int32) (hf : fX7_isThere_b30 h Z M = some r) (hH : q_Hh D cA z0 s Z M H locs) (hl : lv_has ls 3 [])  : W p l e R s m args below meth c H locs cells slots (MQ below (q_Q D cA z0 (some (.int r)) Z M) args s cells slots (fun q => z0 ≤ q)) (F0 m 30 ls []) := by
  have hx := E.1
  have hb := E.2.1
  have hown := E.2.2.2.1
  have hT := E.2.2.2.2.2.2.2.1
  unfold fX7_isThere_b30 at hf
  refine lv_iconst (v := 0) hx hb dX7_isThere_30 (by decide) ?_
  exact bX7_isThere_31 E hR hcc h (0 : Int32) Z M _ _ _ _ hf hH (lv_sub hl [] rfl)
def fX7_isThere (h : Nat) (v1 : Int32) (v2 : Int32) (Z : q_Z) (M : q_C) : Option (Int32) :=
  q_gd (zK Z h == 17) <|
  Option.bind (gR M h 16) fun a_2 =>
  q_gd (q_ok Z a_2 1 ((2 : Int32) * v1)) <|
  if v2 < gI M a_2 ((2 : Int32) * v1).toNatClampNeg then
    fX7_isThere_b30 h Z M
  else
    Option.bind (gR M h 16) fun a_6 =>
    q_gd (q_ok Z a_6 1 (((2 : Int32) * v1) + (1 : Int32))) <|
    if gI M a_6 (((2 : Int32) * v1) + (1 : Int32)).toNatClampNeg < v2 then
      fX7_isThere_b30 h Z M
    else
      fX7_isThere_b31 h (1 : Int32) Z M
set_option maxHeartbeats 4000000 in
set_option maxRecDepth 100000 in
theorem bX7_isThere_0 {cells slots : Nat} (E : q_E p s m meth c cX7_isThere 3 RX7 (some .boolean) "isThere" D cA) (hR : 0 ≤ R.frames ∧ 0 ≤ R.locals) (hcc : cells ≤ R.cells ∧ slots ≤ R.slots) (h : Nat) (v1 : Int32) (v2 : Int32) (Z : q_Z) (M : q_C) (H : Heap) (locs : List Loc) (ls : Array Slot) (r : Int32) (hf : fX7_isThere h v1 v2 Z M = some r) (hH : q_Hh D cA z0 s Z M H locs) (hl : lv_has ls 3 [(0, .ref h), (1, .int v1), (2, .int v2)])  : W p l e R s m args below meth c H locs cells slots (MQ below (q_Q D cA z0 (some (.int r)) Z M) args s cells slots (fun q => z0 ≤ q)) (F0 m 0 ls []) := by
  have hx := E.1
  have hb := E.2.1
  have hown := E.2.2.2.1
  have hT := E.2.2.2.2.2.2.2.1
  unfold fX7_isThere at hf
  refine lv_iload_n hx hb dX7_isThere_0 rfl (lv_at hl 2 rfl) ?_
  refine lv_aload_n hx hb dX7_isThere_1 rfl (lv_at hl 0 rfl) ?_
  obtain ⟨hk_1, hf⟩ := q_gdE hf
  have hk_1 := q_keq hk_1
  refine q_getR E hH (ci := 7) rfl 16 (by decide) kF_X7_59 (fun _ _ _ => rfl) hk_1 dX7_isThere_2 ?_
  obtain ⟨a_2, he_3, hf⟩ := q_biE hf
  rw [he_3]
  refine lv_iconst (v := 2) hx hb dX7_isThere_5 (by decide) ?_
  refine lv_iload_n hx hb dX7_isThere_6 rfl (lv_at hl 1 rfl) ?_
  refine lv_imul hx hb dX7_isThere_7 ?_
  obtain ⟨hz_4, hf⟩ := q_gdE hf
  refine q_iaload E hH hz_4 dX7_isThere_8 ?_
  refine lv_icmp_lt (tgt := 30) hx hb dX7_isThere_9 (by decide) (fun cc_10 => ?_) (fun cc_10 => ?_)
  · replace hf := q_ifT cc_10 hf
    clear cc_10
    exact bX7_isThere_30 E hR hcc h Z M _ _ _ _ hf hH (lv_sub hl [] rfl)
  · replace hf := q_ifF cc_10 hf
    clear cc_10
    refine lv_iload_n hx hb dX7_isThere_12 rfl (lv_at hl 2 rfl) ?_
    refine lv_aload_n hx hb dX7_isThere_13 rfl (lv_at hl 0 rfl) ?_
    refine q_getR E hH (ci := 7) rfl 16 (by decide) kF_X7_59 (fun _ _ _ => rfl) hk_1 dX7_isThere_14 ?_
    obtain ⟨a_6, he_7, hf⟩ := q_biE hf
    rw [he_7]
    refine lv_iconst (v := 2) hx hb dX7_isThere_17 (by decide) ?_
    refine lv_iload_n hx hb dX7_isThere_18 rfl (lv_at hl 1 rfl) ?_
    refine lv_imul hx hb dX7_isThere_19 ?_
    refine lv_iconst (v := 1) hx hb dX7_isThere_20 (by decide) ?_
    refine lv_iadd hx hb dX7_isThere_21 ?_
    obtain ⟨hz_8, hf⟩ := q_gdE hf
    refine q_iaload E hH hz_8 dX7_isThere_22 ?_
    refine lv_icmp_gt (tgt := 30) hx hb dX7_isThere_23 (by decide) (fun cc_9 => ?_) (fun cc_9 => ?_)
    · replace hf := q_ifT cc_9 hf
      clear cc_9
      exact bX7_isThere_30 E hR hcc h Z M _ _ _ _ hf hH (lv_sub hl [] rfl)
    · replace hf := q_ifF cc_9 hf
      clear cc_9
      refine lv_iconst (v := 1) hx hb dX7_isThere_26 (by decide) ?_
      refine lv_goto (tgt := 31) hx hb dX7_isThere_27 (by decide) ?_
      exact bX7_isThere_31 E hR hcc h (1 : Int32) Z M _ _ _ _ hf hH (lv_sub hl [] rfl)
set_option maxRecDepth 100000 in
theorem tX7_isThere (l : Launch) (D : va_G) (cA : Nat → ClassId) (z0 : Nat) (h : Nat) (v1 : Int32) (v2 : Int32) (Z : q_Z) (M : q_C) (r : Int32) (hf : fX7_isThere h v1 v2 Z M = some r) : q_Ct l D cA z0 yX7_isThere cX7_isThere 3 (some .boolean) 0 0 [.ref h, .int v1, .int v2] Z M (some (.int r)) Z M 0 0 := by
  (refine q_start (plainFor_of_name (by decide)) (Nat.le_of_ble_eq_true rfl) (fun p e s m below meth c H ls E hH hl => ?_); exact bX7_isThere_0 E ⟨Nat.le_refl _, Nat.le_refl _⟩ ⟨Nat.le_refl _, Nat.le_refl _⟩ h _ _ Z M H [] ls r hf hH hl)
def fX7_fitsAt_b203 (h : Nat) (s0 : Int32) (Z : q_Z) (M : q_C) : Option (Int32) :=
  q_gd (decide (s0 = 0) || decide (s0 = 1)) <|
  some s0
set_option maxHeartbeats 4000000 in
set_option maxRecDepth 100000 in
theorem bX7_fitsAt_203 {cells slots : Nat} (E : q_E p s m meth c cX7_fitsAt 22 RX7 (some .boolean) "fitsAt" D cA) (hR : 1 ≤ R.frames ∧ 22 ≤ R.locals) (hcc : cells ≤ R.cells ∧ slots ≤ R.slots) (h : Nat) (s0 : Int32) (Z : q_Z) (M : q_C) (H : Heap) (locs : List Loc) (ls : Array Slot) (r : Int32) (hf : fX7_fitsAt_b203 h s0 Z M = some r) (hH : q_Hh D cA z0 s Z M H locs) (hl : lv_has ls 22 [])  : W p l e R s m args below meth c H locs cells slots (MQ below (q_Q D cA z0 (some (.int r)) Z M) args s cells slots (fun q => z0 ≤ q)) (F0 m 203 ls [.int s0]) := by
  have hx := E.1
  have hb := E.2.1
  have hown := E.2.2.2.1
  have hT := E.2.2.2.2.2.2.2.1
  unfold fX7_fitsAt_b203 at hf
  obtain ⟨hz_41, hf⟩ := q_gdE hf
  cases hf
  exact q_zret E hH hz_41 dX7_fitsAt_203
def fX7_fitsAt_b202 (h : Nat) (Z : q_Z) (M : q_C) : Option (Int32) :=
  fX7_fitsAt_b203 h (0 : Int32) Z M
set_option maxHeartbeats 4000000 in
set_option maxRecDepth 100000 in
theorem bX7_fitsAt_202 {cells slots : Nat} (E : q_E p s m meth c cX7_fitsAt 22 RX7 (some .boolean) "fitsAt" D cA) (hR : 1 ≤ R.frames ∧ 22 ≤ R.locals) (hcc : cells ≤ R.cells ∧ slots ≤ R.slots) (h : Nat) (Z : q_Z) (M : q_C) (H : Heap) (locs : List Loc) (ls : Array Slot) (r : Int32) (hf : fX7_fitsAt_b202 h Z M = some r) (hH : q_Hh D cA z0 s Z M H locs) (hl : lv_has ls 22 [])  : W p l e R s m args below meth c H locs cells slots (MQ below (q_Q D cA z0 (some (.int r)) Z M) args s cells slots (fun q => z0 ≤ q)) (F0 m 202 ls []) := by
  have hx := E.1
  have hb := E.2.1
  have hown := E.2.2.2.1
  have hT := E.2.2.2.2.2.2.2.1
  unfold fX7_fitsAt_b202 at hf
  refine lv_iconst (v := 0) hx hb dX7_fitsAt_202 (by decide) ?_
  exact bX7_fitsAt_203 E hR hcc h (0 : Int32) Z M _ _ _ _ hf hH (lv_sub hl [] rfl)
def fX7_fitsAt_b165 (h : Nat) (v2 : Int32) (v18 : Int64) (s0 : Int64) (Z : q_Z) (M : q_C) : Option (Int32) :=
  if v18 ≤ (0 : Int64) then
    fX7_fitsAt_b202 h Z M
  else
    q_gd (zK Z h == 17) <|
    Option.bind (gR M h 7) fun a_43 =>
    q_gd (q_ok Z a_43 1 (((5 : Int32) * v2) + (4 : Int32))) <|
    if ((gI M a_43 (((5 : Int32) * v2) + (4 : Int32)).toNatClampNeg).toInt64) * v18 < (1000 : Int64) * s0 then
      fX7_fitsAt_b202 h Z M
    else
      fX7_fitsAt_b203 h (1 : Int32) Z M
set_option maxHeartbeats 4000000 in
set_option maxRecDepth 100000 in
theorem bX7_fitsAt_165 {cells slots : Nat} (E : q_E p s m meth c cX7_fitsAt 22 RX7 (some .boolean) "fitsAt" D cA) (hR : 1 ≤ R.frames ∧ 22 ≤ R.locals) (hcc : cells ≤ R.cells ∧ slots ≤ R.slots) (h : Nat) (v2 : Int32) (v18 : Int64) (s0 : Int64) (Z : q_Z) (M : q_C) (H : Heap) (locs : List Loc) (ls : Array Slot) (r : Int32) (hf : fX7_fitsAt_b165 h v2 v18 s0 Z M = some r) (hH : q_Hh D cA z0 s Z M H locs) (hl : lv_has ls 22 [(0, .ref h), (2, .int v2), (18, .long v18)])  : W p l e R s m args below meth c H locs cells slots (MQ below (q_Q D cA z0 (some (.int r)) Z M) args s cells slots (fun q => z0 ≤ q)) (F0 m 165 ls [.long s0]) := by
  have hx := E.1
  have hb := E.2.1
  have hown := E.2.2.2.1
  have hT := E.2.2.2.2.2.2.2.1
  unfold fX7_fitsAt_b165 at hf
  refine lv_lstore (lv' := [(20, .long s0), (0, .ref h), (2, .int v2), (18, .long v18)]) hx hb dX7_fitsAt_165 hl (by decide) rfl (fun ls hl => ?_)
  refine lv_lload hx hb dX7_fitsAt_167 (lv_at hl 3 rfl) ?_
  refine lv_lconst (v := 0) hx hb dX7_fitsAt_169 (by decide) ?_
  refine q_lcmp_le (pc1 := 171) (tgt := 202) hx hb dX7_fitsAt_170 rfl dX7_fitsAt_171 (by decide) (fun cc_47 => ?_) (fun cc_47 => ?_)
  · replace hf := q_ifT cc_47 hf
    clear cc_47
    exact bX7_fitsAt_202 E hR hcc h Z M _ _ _ _ hf hH (lv_sub hl [] rfl)
  · replace hf := q_ifF cc_47 hf
    clear cc_47
    refine lv_ldc2 hx hb hown (hT.1 _ _ kK_X7_169) dX7_fitsAt_174 ?_
    refine lv_lload hx hb dX7_fitsAt_177 (lv_at hl 0 rfl) ?_
    refine lv_lmul hx hb dX7_fitsAt_179 ?_
    refine lv_aload_n hx hb dX7_fitsAt_180 rfl (lv_at hl 1 rfl) ?_
    obtain ⟨hk_42, hf⟩ := q_gdE hf
    have hk_42 := q_keq hk_42
    refine q_getR E hH (ci := 7) rfl 7 (by decide) kF_X7_32 (fun _ _ _ => rfl) hk_42 dX7_fitsAt_181 ?_
    obtain ⟨a_43, he_44, hf⟩ := q_biE hf
    rw [he_44]
    refine lv_iconst (v := 5) hx hb dX7_fitsAt_184 (by decide) ?_
    refine lv_iload_n hx hb dX7_fitsAt_185 rfl (lv_at hl 2 rfl) ?_
    refine lv_imul hx hb dX7_fitsAt_186 ?_
    refine lv_iconst (v := 4) hx hb dX7_fitsAt_187 (by decide) ?_
    refine lv_iadd hx hb dX7_fitsAt_188 ?_
    obtain ⟨hz_45, hf⟩ := q_gdE hf
    refine q_iaload E hH hz_45 dX7_fitsAt_189 ?_
    refine lv_i2l hx hb dX7_fitsAt_190 rfl ?_
    refine lv_lload hx hb dX7_fitsAt_191 (lv_at hl 3 rfl) ?_
    refine lv_lmul hx hb dX7_fitsAt_193 ?_
    refine q_lcmp_gt (pc1 := 195) (tgt := 202) hx hb dX7_fitsAt_194 rfl dX7_fitsAt_195 (by decide) (fun cc_46 => ?_) (fun cc_46 => ?_)
    · replace hf := q_ifT cc_46 hf
      clear cc_46
      exact bX7_fitsAt_202 E hR hcc h Z M _ _ _ _ hf hH (lv_sub hl [] rfl)
    · replace hf := q_ifF cc_46 hf
      clear cc_46
      refine lv_iconst (v := 1) hx hb dX7_fitsAt_198 (by decide) ?_
      refine lv_goto (tgt := 203) hx hb dX7_fitsAt_199 (by decide) ?_
      exact bX7_fitsAt_203 E hR hcc h (1 : Int32) Z M _ _ _ _ hf hH (lv_sub hl [] rfl)
def fX7_fitsAt_b95 (h : Nat) (v2 : Int32) (v10 : Int64) (s0 : Int64) (s1 : Int64) (Z : q_Z) (M : q_C) : Option (Int32) :=
  q_nm (s1 - s0) fun v12_24 =>
  q_gd (zK Z h == 17) <|
  Option.bind (gR M h 7) fun a_27 =>
  q_gd (q_ok Z a_27 1 (((5 : Int32) * v2) + (2 : Int32))) <|
  q_nm ((gI M a_27 (((5 : Int32) * v2) + (2 : Int32)).toNatClampNeg).toInt64) fun v14_30 =>
  Option.bind (gR M h 7) fun a_32 =>
  q_gd (q_ok Z a_32 1 (((5 : Int32) * v2) + (3 : Int32))) <|
  q_nm ((gI M a_32 (((5 : Int32) * v2) + (3 : Int32)).toNatClampNeg).toInt64) fun v16_35 =>
  q_nm ((v14_30 * v10) + (v16_35 * v12_24)) fun v18_37 =>
  q_nm ((v14_30 * v12_24) - (v16_35 * v10)) fun v20_39 =>
  if (0 : Int64) ≤ v20_39 then
    fX7_fitsAt_b165 h v2 v18_37 v20_39 Z M
  else
    fX7_fitsAt_b165 h v2 v18_37 (-v20_39) Z M
set_option maxHeartbeats 4000000 in
set_option maxRecDepth 100000 in
theorem bX7_fitsAt_95 {cells slots : Nat} (E : q_E p s m meth c cX7_fitsAt 22 RX7 (some .boolean) "fitsAt" D cA) (hR : 1 ≤ R.frames ∧ 22 ≤ R.locals) (hcc : cells ≤ R.cells ∧ slots ≤ R.slots) (h : Nat) (v2 : Int32) (v10 : Int64) (s0 : Int64) (s1 : Int64) (Z : q_Z) (M : q_C) (H : Heap) (locs : List Loc) (ls : Array Slot) (r : Int32) (hf : fX7_fitsAt_b95 h v2 v10 s0 s1 Z M = some r) (hH : q_Hh D cA z0 s Z M H locs) (hl : lv_has ls 22 [(0, .ref h), (2, .int v2), (10, .long v10)])  : W p l e R s m args below meth c H locs cells slots (MQ below (q_Q D cA z0 (some (.int r)) Z M) args s cells slots (fun q => z0 ≤ q)) (F0 m 95 ls [.long s0, .long s1]) := by
  have hx := E.1
  have hb := E.2.1
  have hown := E.2.2.2.1
  have hT := E.2.2.2.2.2.2.2.1
  unfold fX7_fitsAt_b95 at hf
  refine lv_lsub hx hb dX7_fitsAt_95 ?_
  refine lv_topl (fun v12_24 hn_25 => ?_)
  replace hf := q_nmE hn_25 hf
  clear hn_25
  refine lv_lstore (lv' := [(12, .long v12_24), (0, .ref h), (2, .int v2), (10, .long v10)]) hx hb dX7_fitsAt_96 hl (by decide) rfl (fun ls hl => ?_)
  refine lv_aload_n hx hb dX7_fitsAt_98 rfl (lv_at hl 1 rfl) ?_
  obtain ⟨hk_26, hf⟩ := q_gdE hf
  have hk_26 := q_keq hk_26
  refine q_getR E hH (ci := 7) rfl 7 (by decide) kF_X7_32 (fun _ _ _ => rfl) hk_26 dX7_fitsAt_99 ?_
  obtain ⟨a_27, he_28, hf⟩ := q_biE hf
  rw [he_28]
  refine lv_iconst (v := 5) hx hb dX7_fitsAt_102 (by decide) ?_
  refine lv_iload_n hx hb dX7_fitsAt_103 rfl (lv_at hl 2 rfl) ?_
  refine lv_imul hx hb dX7_fitsAt_104 ?_
  refine lv_iconst (v := 2) hx hb dX7_fitsAt_105 (by decide) ?_
  refine lv_iadd hx hb dX7_fitsAt_106 ?_
  obtain ⟨hz_29, hf⟩ := q_gdE hf
  refine q_iaload E hH hz_29 dX7_fitsAt_107 ?_
  refine lv_i2l hx hb dX7_fitsAt_108 rfl ?_
  refine lv_topl (fun v14_30 hn_31 => ?_)
  replace hf := q_nmE hn_31 hf
  clear hn_31
  refine lv_lstore (lv' := [(14, .long v14_30), (12, .long v12_24), (0, .ref h), (2, .int v2), (10, .long v10)]) hx hb dX7_fitsAt_109 hl (by decide) rfl (fun ls hl => ?_)
  refine lv_aload_n hx hb dX7_fitsAt_111 rfl (lv_at hl 2 rfl) ?_
  refine q_getR E hH (ci := 7) rfl 7 (by decide) kF_X7_32 (fun _ _ _ => rfl) hk_26 dX7_fitsAt_112 ?_
  obtain ⟨a_32, he_33, hf⟩ := q_biE hf
  rw [he_33]
  refine lv_iconst (v := 5) hx hb dX7_fitsAt_115 (by decide) ?_
  refine lv_iload_n hx hb dX7_fitsAt_116 rfl (lv_at hl 3 rfl) ?_
  refine lv_imul hx hb dX7_fitsAt_117 ?_
  refine lv_iconst (v := 3) hx hb dX7_fitsAt_118 (by decide) ?_
  refine lv_iadd hx hb dX7_fitsAt_119 ?_
  obtain ⟨hz_34, hf⟩ := q_gdE hf
  refine q_iaload E hH hz_34 dX7_fitsAt_120 ?_
  refine lv_i2l hx hb dX7_fitsAt_121 rfl ?_
  refine lv_topl (fun v16_35 hn_36 => ?_)
  replace hf := q_nmE hn_36 hf
  clear hn_36
  refine lv_lstore (lv' := [(16, .long v16_35), (14, .long v14_30), (12, .long v12_24), (0, .ref h), (2, .int v2), (10, .long v10)]) hx hb dX7_fitsAt_122 hl (by decide) rfl (fun ls hl => ?_)
  refine lv_lload hx hb dX7_fitsAt_124 (lv_at hl 1 rfl) ?_
  refine lv_lload hx hb dX7_fitsAt_126 (lv_at hl 5 rfl) ?_
  refine lv_lmul hx hb dX7_fitsAt_128 ?_
  refine lv_lload hx hb dX7_fitsAt_129 (lv_at hl 0 rfl) ?_
  refine lv_lload hx hb dX7_fitsAt_131 (lv_at hl 2 rfl) ?_
  refine lv_lmul hx hb dX7_fitsAt_133 ?_
  refine lv_ladd hx hb dX7_fitsAt_134 ?_
  refine lv_topl (fun v18_37 hn_38 => ?_)
  replace hf := q_nmE hn_38 hf
  clear hn_38
  refine lv_lstore (lv' := [(18, .long v18_37), (16, .long v16_35), (14, .long v14_30), (12, .long v12_24), (0, .ref h), (2, .int v2), (10, .long v10)]) hx hb dX7_fitsAt_135 hl (by decide) rfl (fun ls hl => ?_)
  refine lv_lload hx hb dX7_fitsAt_137 (lv_at hl 2 rfl) ?_
  refine lv_lload hx hb dX7_fitsAt_139 (lv_at hl 3 rfl) ?_
  refine lv_lmul hx hb dX7_fitsAt_141 ?_
  refine lv_lload hx hb dX7_fitsAt_142 (lv_at hl 1 rfl) ?_
  refine lv_lload hx hb dX7_fitsAt_144 (lv_at hl 6 rfl) ?_
  refine lv_lmul hx hb dX7_fitsAt_146 ?_
  refine lv_lsub hx hb dX7_fitsAt_147 ?_
  refine lv_topl (fun v20_39 hn_40 => ?_)
  replace hf := q_nmE hn_40 hf
  clear hn_40
  refine lv_lstore (lv' := [(20, .long v20_39), (18, .long v18_37), (16, .long v16_35), (14, .long v14_30), (12, .long v12_24), (0, .ref h), (2, .int v2), (10, .long v10)]) hx hb dX7_fitsAt_148 hl (by decide) rfl (fun ls hl => ?_)
  refine lv_lload hx hb dX7_fitsAt_150 (lv_at hl 0 rfl) ?_
  refine lv_lconst (v := 0) hx hb dX7_fitsAt_152 (by decide) ?_
  refine q_lcmp_ge (pc1 := 154) (tgt := 163) hx hb dX7_fitsAt_153 rfl dX7_fitsAt_154 (by decide) (fun cc_48 => ?_) (fun cc_48 => ?_)
  · replace hf := q_ifT cc_48 hf
    clear cc_48
    refine lv_lload hx hb dX7_fitsAt_163 (lv_at hl 0 rfl) ?_
    exact bX7_fitsAt_165 E hR hcc h v2 v18_37 v20_39 Z M _ _ _ _ hf hH (lv_sub hl [5, 6, 1] rfl)
  · replace hf := q_ifF cc_48 hf
    clear cc_48
    refine lv_lload hx hb dX7_fitsAt_157 (lv_at hl 0 rfl) ?_
    refine lv_lneg hx hb dX7_fitsAt_159 ?_
    refine lv_goto (tgt := 165) hx hb dX7_fitsAt_160 (by decide) ?_
    exact bX7_fitsAt_165 E hR hcc h v2 v18_37 (-v20_39) Z M _ _ _ _ hf hH (lv_sub hl [5, 6, 1] rfl)
def fX7_fitsAt_b74 (h : Nat) (v2 : Int32) (v5 : Int64) (v8 : Int32) (v9 : Int32) (s0 : Int64) (s1 : Int64) (Z : q_Z) (M : q_C) : Option (Int32) :=
  q_nm (s1 - s0) fun v10_18 =>
  q_gd (zK Z h == 17) <|
  Option.bind (gR M h 18) fun a_21 =>
  q_gd (q_ok Z a_21 2 v8) <|
  if v9 = 0 then
    fX7_fitsAt_b95 h v2 v10_18 v5 (gJ M a_21 v8.toNatClampNeg) Z M
  else
    fX7_fitsAt_b95 h v2 v10_18 (0 : Int64) (gJ M a_21 v8.toNatClampNeg) Z M
set_option maxHeartbeats 4000000 in
set_option maxRecDepth 100000 in
theorem bX7_fitsAt_74 {cells slots : Nat} (E : q_E p s m meth c cX7_fitsAt 22 RX7 (some .boolean) "fitsAt" D cA) (hR : 1 ≤ R.frames ∧ 22 ≤ R.locals) (hcc : cells ≤ R.cells ∧ slots ≤ R.slots) (h : Nat) (v2 : Int32) (v5 : Int64) (v8 : Int32) (v9 : Int32) (s0 : Int64) (s1 : Int64) (Z : q_Z) (M : q_C) (H : Heap) (locs : List Loc) (ls : Array Slot) (r : Int32) (hf : fX7_fitsAt_b74 h v2 v5 v8 v9 s0 s1 Z M = some r) (hH : q_Hh D cA z0 s Z M H locs) (hl : lv_has ls 22 [(0, .ref h), (2, .int v2), (5, .long v5), (8, .int v8), (9, .int v9)])  : W p l e R s m args below meth c H locs cells slots (MQ below (q_Q D cA z0 (some (.int r)) Z M) args s cells slots (fun q => z0 ≤ q)) (F0 m 74 ls [.long s0, .long s1]) := by
  have hx := E.1
  have hb := E.2.1
  have hown := E.2.2.2.1
  have hT := E.2.2.2.2.2.2.2.1
  unfold fX7_fitsAt_b74 at hf
  refine lv_lsub hx hb dX7_fitsAt_74 ?_
  refine lv_topl (fun v10_18 hn_19 => ?_)
  replace hf := q_nmE hn_19 hf
  clear hn_19
  refine lv_lstore (lv' := [(10, .long v10_18), (0, .ref h), (2, .int v2), (5, .long v5), (8, .int v8), (9, .int v9)]) hx hb dX7_fitsAt_75 hl (by decide) rfl (fun ls hl => ?_)
  refine lv_aload_n hx hb dX7_fitsAt_77 rfl (lv_at hl 1 rfl) ?_
  obtain ⟨hk_20, hf⟩ := q_gdE hf
  have hk_20 := q_keq hk_20
  refine q_getR E hH (ci := 7) rfl 18 (by decide) kF_X7_67 (fun _ _ _ => rfl) hk_20 dX7_fitsAt_78 ?_
  obtain ⟨a_21, he_22, hf⟩ := q_biE hf
  rw [he_22]
  refine lv_iload hx hb dX7_fitsAt_81 (lv_at hl 4 rfl) ?_
  obtain ⟨hz_23, hf⟩ := q_gdE hf
  refine q_laload E hH hz_23 dX7_fitsAt_83 ?_
  refine lv_iload hx hb dX7_fitsAt_84 (lv_at hl 5 rfl) ?_
  refine lv_if_eq (tgt := 93) hx hb dX7_fitsAt_86 (by decide) (fun cc_49 => ?_) (fun cc_49 => ?_)
  · replace hf := q_ifT cc_49 hf
    clear cc_49
    refine lv_lload hx hb dX7_fitsAt_93 (lv_at hl 3 rfl) ?_
    exact bX7_fitsAt_95 E hR hcc h v2 v10_18 v5 (gJ M a_21 v8.toNatClampNeg) Z M _ _ _ _ hf hH (lv_sub hl [1, 2, 0] rfl)
  · replace hf := q_ifF cc_49 hf
    clear cc_49
    refine lv_lconst (v := 0) hx hb dX7_fitsAt_89 (by decide) ?_
    refine lv_goto (tgt := 95) hx hb dX7_fitsAt_90 (by decide) ?_
    exact bX7_fitsAt_95 E hR hcc h v2 v10_18 (0 : Int64) (gJ M a_21 v8.toNatClampNeg) Z M _ _ _ _ hf hH (lv_sub hl [1, 2, 0] rfl)
def fX7_fitsAt_b55 (h : Nat) (v2 : Int32) (v3 : Int64) (v5 : Int64) (v8 : Int32) (s0 : Int32) (Z : q_Z) (M : q_C) : Option (Int32) :=
  q_gd (zK Z h == 17) <|
  Option.bind (gR M h 17) fun a_15 =>
  q_gd (q_ok Z a_15 2 v8) <|
  if s0 = 0 then
    fX7_fitsAt_b74 h v2 v5 v8 s0 v3 (gJ M a_15 v8.toNatClampNeg) Z M
  else
    fX7_fitsAt_b74 h v2 v5 v8 s0 (0 : Int64) (gJ M a_15 v8.toNatClampNeg) Z M
set_option maxHeartbeats 4000000 in
set_option maxRecDepth 100000 in
theorem bX7_fitsAt_55 {cells slots : Nat} (E : q_E p s m meth c cX7_fitsAt 22 RX7 (some .boolean) "fitsAt" D cA) (hR : 1 ≤ R.frames ∧ 22 ≤ R.locals) (hcc : cells ≤ R.cells ∧ slots ≤ R.slots) (h : Nat) (v2 : Int32) (v3 : Int64) (v5 : Int64) (v8 : Int32) (s0 : Int32) (Z : q_Z) (M : q_C) (H : Heap) (locs : List Loc) (ls : Array Slot) (r : Int32) (hf : fX7_fitsAt_b55 h v2 v3 v5 v8 s0 Z M = some r) (hH : q_Hh D cA z0 s Z M H locs) (hl : lv_has ls 22 [(0, .ref h), (2, .int v2), (3, .long v3), (5, .long v5), (8, .int v8)])  : W p l e R s m args below meth c H locs cells slots (MQ below (q_Q D cA z0 (some (.int r)) Z M) args s cells slots (fun q => z0 ≤ q)) (F0 m 55 ls [.int s0]) := by
  have hx := E.1
  have hb := E.2.1
  have hown := E.2.2.2.1
  have hT := E.2.2.2.2.2.2.2.1
  unfold fX7_fitsAt_b55 at hf
  refine lv_istore (lv' := [(9, .int s0), (0, .ref h), (2, .int v2), (3, .long v3), (5, .long v5), (8, .int v8)]) hx hb dX7_fitsAt_55 hl (by decide) rfl (fun ls hl => ?_)
  refine lv_aload_n hx hb dX7_fitsAt_57 rfl (lv_at hl 1 rfl) ?_
  obtain ⟨hk_14, hf⟩ := q_gdE hf
  have hk_14 := q_keq hk_14
  refine q_getR E hH (ci := 7) rfl 17 (by decide) kF_X7_63 (fun _ _ _ => rfl) hk_14 dX7_fitsAt_58 ?_
  obtain ⟨a_15, he_16, hf⟩ := q_biE hf
  rw [he_16]
  refine lv_iload hx hb dX7_fitsAt_61 (lv_at hl 5 rfl) ?_
  obtain ⟨hz_17, hf⟩ := q_gdE hf
  refine q_laload E hH hz_17 dX7_fitsAt_63 ?_
  refine lv_iload hx hb dX7_fitsAt_64 (lv_at hl 0 rfl) ?_
  refine lv_if_eq (tgt := 73) hx hb dX7_fitsAt_66 (by decide) (fun cc_50 => ?_) (fun cc_50 => ?_)
  · replace hf := q_ifT cc_50 hf
    clear cc_50
    refine lv_lload_n hx hb dX7_fitsAt_73 rfl (lv_at hl 3 rfl) ?_
    exact bX7_fitsAt_74 E hR hcc h v2 v5 v8 s0 v3 (gJ M a_15 v8.toNatClampNeg) Z M _ _ _ _ hf hH (lv_sub hl [1, 2, 4, 5, 0] rfl)
  · replace hf := q_ifF cc_50 hf
    clear cc_50
    refine lv_lconst (v := 0) hx hb dX7_fitsAt_69 (by decide) ?_
    refine lv_goto (tgt := 74) hx hb dX7_fitsAt_70 (by decide) ?_
    exact bX7_fitsAt_74 E hR hcc h v2 v5 v8 s0 (0 : Int64) (gJ M a_15 v8.toNatClampNeg) Z M _ _ _ _ hf hH (lv_sub hl [1, 2, 4, 5, 0] rfl)
def fX7_fitsAt (h : Nat) (v1 : Int32) (v2 : Int32) (v3 : Int64) (v5 : Int64) (Z : q_Z) (M : q_C) : Option (Int32) :=
  q_gd (zK Z h == 17) <|
  Option.bind (gR M h 7) fun a_2 =>
  q_gd (q_ok Z a_2 1 (((5 : Int32) * v2) + (1 : Int32))) <|
  q_nm (gI M a_2 (((5 : Int32) * v2) + (1 : Int32)).toNatClampNeg) fun v7_5 =>
  Option.bind (fX7_isThere h v1 v7_5 Z M) fun r_7 =>
  if r_7 = 0 then
    q_gd (decide ((0 : Int32) = 0) || decide ((0 : Int32) = 1)) <|
    some (0 : Int32)
  else
    q_nm ((((601 : Int32) * v1) + v7_5) + (300 : Int32)) fun v8_9 =>
    Option.bind (gR M h 7) fun a_11 =>
    q_gd (q_ok Z a_11 1 ((5 : Int32) * v2)) <|
    if gI M a_11 ((5 : Int32) * v2).toNatClampNeg = (1 : Int32) then
      fX7_fitsAt_b55 h v2 v3 v5 v8_9 (1 : Int32) Z M
    else
      fX7_fitsAt_b55 h v2 v3 v5 v8_9 (0 : Int32) Z M
set_option maxHeartbeats 4000000 in
set_option maxRecDepth 100000 in
theorem bX7_fitsAt_0 {cells slots : Nat} (E : q_E p s m meth c cX7_fitsAt 22 RX7 (some .boolean) "fitsAt" D cA) (hR : 1 ≤ R.frames ∧ 22 ≤ R.locals) (hcc : cells ≤ R.cells ∧ slots ≤ R.slots) (h : Nat) (v1 : Int32) (v2 : Int32) (v3 : Int64) (v5 : Int64) (Z : q_Z) (M : q_C) (H : Heap) (locs : List Loc) (ls : Array Slot) (r : Int32) (hf : fX7_fitsAt h v1 v2 v3 v5 Z M = some r) (hH : q_Hh D cA z0 s Z M H locs) (hl : lv_has ls 22 [(0, .ref h), (1, .int v1), (2, .int v2), (3, .long v3), (5, .long v5)])  : W p l e R s m args below meth c H locs cells slots (MQ below (q_Q D cA z0 (some (.int r)) Z M) args s cells slots (fun q => z0 ≤ q)) (F0 m 0 ls []) := by
  have hx := E.1
  have hb := E.2.1
  have hown := E.2.2.2.1
  have hT := E.2.2.2.2.2.2.2.1
  unfold fX7_fitsAt at hf
  refine lv_aload_n hx hb dX7_fitsAt_0 rfl (lv_at hl 0 rfl) ?_
  obtain ⟨hk_1, hf⟩ := q_gdE hf
  have hk_1 := q_keq hk_1
  refine q_getR E hH (ci := 7) rfl 7 (by decide) kF_X7_32 (fun _ _ _ => rfl) hk_1 dX7_fitsAt_1 ?_
  obtain ⟨a_2, he_3, hf⟩ := q_biE hf
  rw [he_3]
  refine lv_iconst (v := 5) hx hb dX7_fitsAt_4 (by decide) ?_
  refine lv_iload_n hx hb dX7_fitsAt_5 rfl (lv_at hl 2 rfl) ?_
  refine lv_imul hx hb dX7_fitsAt_6 ?_
  refine lv_iconst (v := 1) hx hb dX7_fitsAt_7 (by decide) ?_
  refine lv_iadd hx hb dX7_fitsAt_8 ?_
  obtain ⟨hz_4, hf⟩ := q_gdE hf
  refine q_iaload E hH hz_4 dX7_fitsAt_9 ?_
  refine lv_topi (fun v7_5 hn_6 => ?_)
  replace hf := q_nmE hn_6 hf
  clear hn_6
  refine lv_istore (lv' := [(7, .int v7_5), (0, .ref h), (1, .int v1), (2, .int v2), (3, .long v3), (5, .long v5)]) hx hb dX7_fitsAt_10 hl (by decide) rfl (fun ls hl => ?_)
  refine lv_aload_n hx hb dX7_fitsAt_12 rfl (lv_at hl 1 rfl) ?_
  refine lv_iload_n hx hb dX7_fitsAt_13 rfl (lv_at hl 2 rfl) ?_
  refine lv_iload hx hb dX7_fitsAt_14 (lv_at hl 0 rfl) ?_
  obtain ⟨r_7, hw_8, hf⟩ := q_biE hf
  refine q_cV (As := [.int v1, .int v7_5]) (rest := []) (st1 := [.int r_7]) E hH (tX7_isThere l D cA z0 h v1 v7_5 Z M r_7 hw_8) mw_X7_isThere mi_X7_isThere (ci := 7) rfl ms_X7_isThere kM_X7_165 hk_1 hcc rfl rfl rfl hl.1 rfl rfl (Nat.le_of_ble_eq_true rfl) ⟨Nat.le_trans (by decide) hR.1, Nat.le_trans (by decide) hR.2⟩ dX7_fitsAt_16 (fun H locs hH => ?_)
  refine lv_if_ne (tgt := 24) hx hb dX7_fitsAt_19 (by decide) (fun cc_53 => ?_) (fun cc_53 => ?_)
  · replace hf := q_ifF cc_53 hf
    clear cc_53
    refine lv_sipush (v := 601) hx hb dX7_fitsAt_24 (by decide) ?_
    refine lv_iload_n hx hb dX7_fitsAt_27 rfl (lv_at hl 2 rfl) ?_
    refine lv_imul hx hb dX7_fitsAt_28 ?_
    refine lv_iload hx hb dX7_fitsAt_29 (lv_at hl 0 rfl) ?_
    refine lv_iadd hx hb dX7_fitsAt_31 ?_
    refine lv_sipush (v := 300) hx hb dX7_fitsAt_32 (by decide) ?_
    refine lv_iadd hx hb dX7_fitsAt_35 ?_
    refine lv_topi (fun v8_9 hn_10 => ?_)
    replace hf := q_nmE hn_10 hf
    clear hn_10
    refine lv_istore (lv' := [(8, .int v8_9), (7, .int v7_5), (0, .ref h), (1, .int v1), (2, .int v2), (3, .long v3), (5, .long v5)]) hx hb dX7_fitsAt_36 hl (by decide) rfl (fun ls hl => ?_)
    refine lv_aload_n hx hb dX7_fitsAt_38 rfl (lv_at hl 2 rfl) ?_
    refine q_getR E hH (ci := 7) rfl 7 (by decide) kF_X7_32 (fun _ _ _ => rfl) hk_1 dX7_fitsAt_39 ?_
    obtain ⟨a_11, he_12, hf⟩ := q_biE hf
    rw [he_12]
    refine lv_iconst (v := 5) hx hb dX7_fitsAt_42 (by decide) ?_
    refine lv_iload_n hx hb dX7_fitsAt_43 rfl (lv_at hl 4 rfl) ?_
    refine lv_imul hx hb dX7_fitsAt_44 ?_
    obtain ⟨hz_13, hf⟩ := q_gdE hf
    refine q_iaload E hH hz_13 dX7_fitsAt_45 ?_
    refine lv_iconst (v := 1) hx hb dX7_fitsAt_46 (by decide) ?_
    refine lv_icmp_ne (tgt := 54) hx hb dX7_fitsAt_47 (by decide) (fun cc_51 => ?_) (fun cc_51 => ?_)
    · replace hf := q_ifF cc_51 hf
      clear cc_51
      refine lv_iconst (v := 0) hx hb dX7_fitsAt_54 (by decide) ?_
      exact bX7_fitsAt_55 E hR hcc h v2 v3 v5 v8_9 (0 : Int32) Z M _ _ _ _ hf hH (lv_sub hl [2, 4, 5, 6, 0] rfl)
    · replace hf := q_ifT cc_51 hf
      clear cc_51
      refine lv_iconst (v := 1) hx hb dX7_fitsAt_50 (by decide) ?_
      refine lv_goto (tgt := 55) hx hb dX7_fitsAt_51 (by decide) ?_
      exact bX7_fitsAt_55 E hR hcc h v2 v3 v5 v8_9 (1 : Int32) Z M _ _ _ _ hf hH (lv_sub hl [2, 4, 5, 6, 0] rfl)
  · replace hf := q_ifT cc_53 hf
    clear cc_53
    refine lv_iconst (v := 0) hx hb dX7_fitsAt_22 (by decide) ?_
    obtain ⟨hz_52, hf⟩ := q_gdE hf
    cases hf
    exact q_zret E hH hz_52 dX7_fitsAt_23
set_option maxRecDepth 100000 in
theorem tX7_fitsAt (l : Launch) (D : va_G) (cA : Nat → ClassId) (z0 : Nat) (h : Nat) (v1 : Int32) (v2 : Int32) (v3 : Int64) (v5 : Int64) (Z : q_Z) (M : q_C) (r : Int32) (hf : fX7_fitsAt h v1 v2 v3 v5 Z M = some r) : q_Ct l D cA z0 yX7_fitsAt cX7_fitsAt 22 (some .boolean) 1 22 [.ref h, .int v1, .int v2, .long v3, .long v5] Z M (some (.int r)) Z M 0 0 := by
  (refine q_start (plainFor_of_name (by decide)) (Nat.le_of_ble_eq_true rfl) (fun p e s m below meth c H ls E hH hl => ?_); exact bX7_fitsAt_0 E ⟨Nat.le_refl _, Nat.le_refl _⟩ ⟨Nat.le_refl _, Nat.le_refl _⟩ h _ _ _ _ Z M H [] ls r hf hH hl)
end Q232
