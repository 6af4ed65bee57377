section Q231
variable {p : Program} {l : Launch} {e : Env} {R : Room} {s : State} {m : MethodId} {args : Array Value} {below : List Frame} {meth : Method} {c : Code} {D : va_G} {cA : Nat → ClassId} {z0 : Nat}
def fX7_is_b15 (s0 : Int32) : Option (Int32) :=
  q_gd (decide (s0 = 0) || decide (s0 = 1)) <|
  some s0
set_option maxHeartbeats 4000000 in
set_option maxRecDepth 100000 in
theorem bX7_is_15 {cells slots : Nat} (E : q_E p s m meth c cX7_is 3 RX7 (some .boolean) "is" D cA) (hR : 0 ≤ R.frames ∧ 0 ≤ R.locals) (hcc : cells ≤ R.cells ∧ slots ≤ R.slots) (Z : q_Z) (M : q_C) (s0 : Int32) (H : Heap) (locs : List Loc) (ls : Array Slot) (r : Int32) (hf : fX7_is_b15 s0 = some r) (hH : q_Hh D cA z0 s Z M H locs) (hl : lv_has ls 3 [])  : W p l e R s m args below meth c H locs cells slots (MQ below (q_Q D cA z0 (some (.int r)) Z M) args s cells slots (fun q => z0 ≤ q)) (F0 m 15 ls [.int s0]) := by
  have hx := E.1
  have hb := E.2.1
  have hown := E.2.2.2.1
  have hT := E.2.2.2.2.2.2.2.1
  unfold fX7_is_b15 at hf
  obtain ⟨hz_1, hf⟩ := q_gdE hf
  cases hf
  exact q_zret E hH hz_1 dX7_is_15
def fX7_is_b14  : Option (Int32) :=
  fX7_is_b15 (0 : Int32)
set_option maxHeartbeats 4000000 in
set_option maxRecDepth 100000 in
theorem bX7_is_14 {cells slots : Nat} (E : q_E p s m meth c cX7_is 3 RX7 (some .boolean) "is" D cA) (hR : 0 ≤ R.frames ∧ 0 ≤ R.locals) (hcc : cells ≤ R.cells ∧ slots ≤ R.slots) (Z : q_Z) (M : q_C) (H : Heap) (locs : List Loc) (ls : Array Slot) (r : Int32) (hf : fX7_is_b14 = some r) (hH : q_Hh D cA z0 s Z M H locs) (hl : lv_has ls 3 [])  : W p l e R s m args below meth c H locs cells slots (MQ below (q_Q D cA z0 (some (.int r)) Z M) args s cells slots (fun q => z0 ≤ q)) (F0 m 14 ls []) := by
  have hx := E.1
  have hb := E.2.1
  have hown := E.2.2.2.1
  have hT := E.2.2.2.2.2.2.2.1
  unfold fX7_is_b14 at hf
  refine lv_iconst (v := 0) hx hb dX7_is_14 (by decide) ?_
  exact bX7_is_15 E hR hcc Z M (0 : Int32) _ _ _ _ hf hH (lv_sub hl [] rfl)
def fX7_is (v0 : Int32) (v1 : Int32) (v2 : Int32) : Option (Int32) :=
  if v0 < v1 then
    fX7_is_b14 
  else
    if v2 < v0 then
      fX7_is_b14 
    else
      fX7_is_b15 (1 : Int32)
set_option maxHeartbeats 4000000 in
set_option maxRecDepth 100000 in
theorem bX7_is_0 {cells slots : Nat} (E : q_E p s m meth c cX7_is 3 RX7 (some .boolean) "is" D cA) (hR : 0 ≤ R.frames ∧ 0 ≤ R.locals) (hcc : cells ≤ R.cells ∧ slots ≤ R.slots) (Z : q_Z) (M : q_C) (v0 : Int32) (v1 : Int32) (v2 : Int32) (H : Heap) (locs : List Loc) (ls : Array Slot) (r : Int32) (hf : fX7_is v0 v1 v2 = some r) (hH : q_Hh D cA z0 s Z M H locs) (hl : lv_has ls 3 [(0, .int v0), (1, .int v1), (2, .int v2)])  : W p l e R s m args below meth c H locs cells slots (MQ below (q_Q D cA z0 (some (.int r)) Z M) args s cells slots (fun q => z0 ≤ q)) (F0 m 0 ls []) := by
  have hx := E.1
  have hb := E.2.1
  have hown := E.2.2.2.1
  have hT := E.2.2.2.2.2.2.2.1
  unfold fX7_is at hf
  refine lv_iload_n hx hb dX7_is_0 rfl (lv_at hl 0 rfl) ?_
  refine lv_iload_n hx hb dX7_is_1 rfl (lv_at hl 1 rfl) ?_
  refine lv_icmp_lt (tgt := 14) hx hb dX7_is_2 (by decide) (fun cc_3 => ?_) (fun cc_3 => ?_)
  · replace hf := q_ifT cc_3 hf
    clear cc_3
    exact bX7_is_14 E hR hcc Z M _ _ _ _ hf hH (lv_sub hl [] rfl)
  · replace hf := q_ifF cc_3 hf
    clear cc_3
    refine lv_iload_n hx hb dX7_is_5 rfl (lv_at hl 0 rfl) ?_
    refine lv_iload_n hx hb dX7_is_6 rfl (lv_at hl 2 rfl) ?_
    refine lv_icmp_gt (tgt := 14) hx hb dX7_is_7 (by decide) (fun cc_2 => ?_) (fun cc_2 => ?_)
    · replace hf := q_ifT cc_2 hf
      clear cc_2
      exact bX7_is_14 E hR hcc Z M _ _ _ _ hf hH (lv_sub hl [] rfl)
    · replace hf := q_ifF cc_2 hf
      clear cc_2
      refine lv_iconst (v := 1) hx hb dX7_is_10 (by decide) ?_
      refine lv_goto (tgt := 15) hx hb dX7_is_11 (by decide) ?_
      exact bX7_is_15 E hR hcc Z M (1 : Int32) _ _ _ _ hf hH (lv_sub hl [] rfl)
set_option maxRecDepth 100000 in
theorem tX7_is (l : Launch) (D : va_G) (cA : Nat → ClassId) (z0 : Nat) (Z : q_Z) (M : q_C) (v0 : Int32) (v1 : Int32) (v2 : Int32) (r : Int32) (hf : fX7_is v0 v1 v2 = some r) : q_Ct l D cA z0 yX7_is cX7_is 3 (some .boolean) 0 0 [.int v0, .int v1, .int v2] Z M (some (.int r)) Z M 0 0 := by
  (refine q_start (plainFor_of_name (by decide)) (Nat.le_of_ble_eq_true rfl) (fun p e s m below meth c H ls E hH hl => ?_); exact bX7_is_0 E ⟨Nat.le_refl _, Nat.le_refl _⟩ ⟨Nat.le_refl _, Nat.le_refl _⟩ Z M _ _ _ H [] ls r hf hH hl)
def fX7_round_b49 (h : Nat) (Z : q_Z) (M : q_C) : Option (Int32 × q_C) :=
  some ((-1 : Int32), M)
set_option maxHeartbeats 4000000 in
set_option maxRecDepth 100000 in
theorem bX7_round_49 {cells slots : Nat} (E : q_E p s m meth c cX7_round 5 RX7 (some .int) "round" D cA) (hR : 1 ≤ R.frames ∧ 22 ≤ R.locals) (hcc : cells ≤ R.cells ∧ slots ≤ R.slots) (h : Nat) (Z : q_Z) (M : q_C) (H : Heap) (locs : List Loc) (ls : Array Slot) (r : Int32) (M' : q_C) (hf : fX7_round_b49 h Z M = some (r, M')) (hH : q_Hh D cA z0 s Z M H locs) (hl : lv_has ls 5 [])  : W p l e R s m args below meth c H locs cells slots (MQ below (q_Q D cA z0 (some (.int r)) Z M') args s cells slots (fun q => z0 ≤ q)) (F0 m 49 ls []) := by
  have hx := E.1
  have hb := E.2.1
  have hown := E.2.2.2.1
  have hT := E.2.2.2.2.2.2.2.1
  unfold fX7_round_b49 at hf
  refine lv_iconst (v := -1) hx hb dX7_round_49 (by decide) ?_
  cases hf
  exact q_iret E hH dX7_round_50
def fX7_round_b9 (h : Nat) (v2 : Int32) (v3 : Int32) (s0 : Int32) (Z : q_Z) (M : q_C) : Option (Int32 × q_C) :=
  Option.bind (fX7_is v2 (-20000 : Int32) (20000 : Int32)) fun r_1 =>
  if r_1 = 0 then
    fX7_round_b49 h Z M
  else
    Option.bind (fX7_is v3 (-20000 : Int32) (20000 : Int32)) fun r_3 =>
    if r_3 = 0 then
      fX7_round_b49 h Z M
    else
      q_gd (zK Z h == 17) <|
      Option.bind (gR M h 0) fun a_6 =>
      q_gd (q_ok Z a_6 1 s0) <|
      if gI M a_6 s0.toNatClampNeg = (40 : Int32) then
        fX7_round_b49 h Z M
      else
        Option.bind (gR M h 1) fun a_9 =>
        Option.bind (gR M h 0) fun a_11 =>
        q_gd (q_ok Z a_11 1 s0) <|
        q_gd (q_ok Z a_9 1 (((80 : Int32) * s0) + ((2 : Int32) * (gI M a_11 s0.toNatClampNeg)))) <|
        q_nm (sI M a_9 (((80 : Int32) * s0) + ((2 : Int32) * (gI M a_11 s0.toNatClampNeg))).toNatClampNeg v2) fun M_15 =>
        Option.bind (gR M_15 h 1) fun a_16 =>
        Option.bind (gR M_15 h 0) fun a_18 =>
        q_gd (q_ok Z a_18 1 s0) <|
        q_gd (q_ok Z a_16 1 ((((80 : Int32) * s0) + ((2 : Int32) * (gI M_15 a_18 s0.toNatClampNeg))) + (1 : Int32))) <|
        q_nm (sI M_15 a_16 ((((80 : Int32) * s0) + ((2 : Int32) * (gI M_15 a_18 s0.toNatClampNeg))) + (1 : Int32)).toNatClampNeg v3) fun M_22 =>
        Option.bind (gR M_22 h 0) fun a_23 =>
        q_gd (q_ok Z a_23 1 s0) <|
        q_gd (q_ok Z a_23 1 s0) <|
        q_nm (sI M_22 a_23 s0.toNatClampNeg ((gI M_22 a_23 s0.toNatClampNeg) + (1 : Int32))) fun M_27 =>
        Option.bind (gR M_27 h 0) fun a_28 =>
        q_gd (q_ok Z a_28 1 s0) <|
        some ((gI M_27 a_28 s0.toNatClampNeg), M_27)
set_option maxHeartbeats 4000000 in
set_option maxRecDepth 100000 in
theorem bX7_round_9 {cells slots : Nat} (E : q_E p s m meth c cX7_round 5 RX7 (some .int) "round" D cA) (hR : 1 ≤ R.frames ∧ 22 ≤ R.locals) (hcc : cells ≤ R.cells ∧ slots ≤ R.slots) (h : Nat) (v2 : Int32) (v3 : Int32) (s0 : Int32) (Z : q_Z) (M : q_C) (H : Heap) (locs : List Loc) (ls : Array Slot) (r : Int32) (M' : q_C) (hf : fX7_round_b9 h v2 v3 s0 Z M = some (r, M')) (hH : q_Hh D cA z0 s Z M H locs) (hl : lv_has ls 5 [(0, .ref h), (2, .int v2), (3, .int v3)])  : W p l e R s m args below meth c H locs cells slots (MQ below (q_Q D cA z0 (some (.int r)) Z M') args s cells slots (fun q => z0 ≤ q)) (F0 m 9 ls [.int s0]) := by
  have hx := E.1
  have hb := E.2.1
  have hown := E.2.2.2.1
  have hT := E.2.2.2.2.2.2.2.1
  unfold fX7_round_b9 at hf
  refine lv_istore (lv' := [(4, .int s0), (0, .ref h), (2, .int v2), (3, .int v3)]) hx hb dX7_round_9 hl (by decide) rfl (fun ls hl => ?_)
  refine lv_iload_n hx hb dX7_round_11 rfl (lv_at hl 2 rfl) ?_
  refine lv_sipush (v := -20000) hx hb dX7_round_12 (by decide) ?_
  refine lv_sipush (v := 20000) hx hb dX7_round_15 (by decide) ?_
  obtain ⟨r_1, hw_2, hf⟩ := q_biE hf
  refine q_cS (As := [.int v2, .int (-20000 : Int32), .int (20000 : Int32)]) (rest := []) (st1 := [.int r_1]) E hH (tX7_is l D cA z0 Z M v2 (-20000 : Int32) (20000 : Int32) r_1 hw_2) mw_X7_is mi_X7_is kM_X7_105 hcc rfl rfl rfl hl.1 rfl rfl (Nat.le_of_ble_eq_true rfl) ⟨Nat.le_trans (by decide) hR.1, Nat.le_trans (by decide) hR.2⟩ dX7_round_18 (fun H locs hH => ?_)
  refine lv_if_eq (tgt := 49) hx hb dX7_round_21 (by decide) (fun cc_33 => ?_) (fun cc_33 => ?_)
  · replace hf := q_ifT cc_33 hf
    clear cc_33
    exact bX7_round_49 E hR hcc h Z M _ _ _ _ _ hf hH (lv_sub hl [] rfl)
  · replace hf := q_ifF cc_33 hf
    clear cc_33
    refine lv_iload_n hx hb dX7_round_24 rfl (lv_at hl 3 rfl) ?_
    refine lv_sipush (v := -20000) hx hb dX7_round_25 (by decide) ?_
    refine lv_sipush (v := 20000) hx hb dX7_round_28 (by decide) ?_
    obtain ⟨r_3, hw_4, hf⟩ := q_biE hf
    refine q_cS (As := [.int v3, .int (-20000 : Int32), .int (20000 : Int32)]) (rest := []) (st1 := [.int r_3]) E hH (tX7_is l D cA z0 Z M v3 (-20000 : Int32) (20000 : Int32) r_3 hw_4) mw_X7_is mi_X7_is kM_X7_105 hcc rfl rfl rfl hl.1 rfl rfl (Nat.le_of_ble_eq_true rfl) ⟨Nat.le_trans (by decide) hR.1, Nat.le_trans (by decide) hR.2⟩ dX7_round_31 (fun H locs hH => ?_)
    refine lv_if_eq (tgt := 49) hx hb dX7_round_34 (by decide) (fun cc_32 => ?_) (fun cc_32 => ?_)
    · replace hf := q_ifT cc_32 hf
      clear cc_32
      exact bX7_round_49 E hR hcc h Z M _ _ _ _ _ hf hH (lv_sub hl [] rfl)
    · replace hf := q_ifF cc_32 hf
      clear cc_32
      refine lv_aload_n hx hb dX7_round_37 rfl (lv_at hl 1 rfl) ?_
      obtain ⟨hk_5, hf⟩ := q_gdE hf
      have hk_5 := q_keq hk_5
      refine q_getR E hH (ci := 7) rfl 0 (by decide) kF_X7_7 (fun _ _ _ => rfl) hk_5 dX7_round_38 ?_
      obtain ⟨a_6, he_7, hf⟩ := q_biE hf
      rw [he_7]
      refine lv_iload hx hb dX7_round_41 (lv_at hl 0 rfl) ?_
      obtain ⟨hz_8, hf⟩ := q_gdE hf
      refine q_iaload E hH hz_8 dX7_round_43 ?_
      refine lv_bipush (v := 40) hx hb dX7_round_44 (by decide) ?_
      refine lv_icmp_ne (tgt := 51) hx hb dX7_round_46 (by decide) (fun cc_31 => ?_) (fun cc_31 => ?_)
      · replace hf := q_ifF cc_31 hf
        clear cc_31
        refine lv_aload_n hx hb dX7_round_51 rfl (lv_at hl 1 rfl) ?_
        refine q_getR E hH (ci := 7) rfl 1 (by decide) kF_X7_13 (fun _ _ _ => rfl) hk_5 dX7_round_52 ?_
        obtain ⟨a_9, he_10, hf⟩ := q_biE hf
        rw [he_10]
        refine lv_bipush (v := 80) hx hb dX7_round_55 (by decide) ?_
        refine lv_iload hx hb dX7_round_57 (lv_at hl 0 rfl) ?_
        refine lv_imul hx hb dX7_round_59 ?_
        refine lv_iconst (v := 2) hx hb dX7_round_60 (by decide) ?_
        refine lv_aload_n hx hb dX7_round_61 rfl (lv_at hl 1 rfl) ?_
        refine q_getR E hH (ci := 7) rfl 0 (by decide) kF_X7_7 (fun _ _ _ => rfl) hk_5 dX7_round_62 ?_
        obtain ⟨a_11, he_12, hf⟩ := q_biE hf
        rw [he_12]
        refine lv_iload hx hb dX7_round_65 (lv_at hl 0 rfl) ?_
        obtain ⟨hz_13, hf⟩ := q_gdE hf
        refine q_iaload E hH hz_13 dX7_round_67 ?_
        refine lv_imul hx hb dX7_round_68 ?_
        refine lv_iadd hx hb dX7_round_69 ?_
        refine lv_iload_n hx hb dX7_round_70 rfl (lv_at hl 2 rfl) ?_
        obtain ⟨hz_14, hf⟩ := q_gdE hf
        refine q_iastore E hH hz_14 dX7_round_71 hf (fun M_15 H locs hH hf => ?_)
        refine lv_aload_n hx hb dX7_round_72 rfl (lv_at hl 1 rfl) ?_
        refine q_getR E hH (ci := 7) rfl 1 (by decide) kF_X7_13 (fun _ _ _ => rfl) hk_5 dX7_round_73 ?_
        obtain ⟨a_16, he_17, hf⟩ := q_biE hf
        rw [he_17]
        refine lv_bipush (v := 80) hx hb dX7_round_76 (by decide) ?_
        refine lv_iload hx hb dX7_round_78 (lv_at hl 0 rfl) ?_
        refine lv_imul hx hb dX7_round_80 ?_
        refine lv_iconst (v := 2) hx hb dX7_round_81 (by decide) ?_
        refine lv_aload_n hx hb dX7_round_82 rfl (lv_at hl 1 rfl) ?_
        refine q_getR E hH (ci := 7) rfl 0 (by decide) kF_X7_7 (fun _ _ _ => rfl) hk_5 dX7_round_83 ?_
        obtain ⟨a_18, he_19, hf⟩ := q_biE hf
        rw [he_19]
        refine lv_iload hx hb dX7_round_86 (lv_at hl 0 rfl) ?_
        obtain ⟨hz_20, hf⟩ := q_gdE hf
        refine q_iaload E hH hz_20 dX7_round_88 ?_
        refine lv_imul hx hb dX7_round_89 ?_
        refine lv_iadd hx hb dX7_round_90 ?_
        refine lv_iconst (v := 1) hx hb dX7_round_91 (by decide) ?_
        refine lv_iadd hx hb dX7_round_92 ?_
        refine lv_iload_n hx hb dX7_round_93 rfl (lv_at hl 3 rfl) ?_
        obtain ⟨hz_21, hf⟩ := q_gdE hf
        refine q_iastore E hH hz_21 dX7_round_94 hf (fun M_22 H locs hH hf => ?_)
        refine lv_aload_n hx hb dX7_round_95 rfl (lv_at hl 1 rfl) ?_
        refine q_getR E hH (ci := 7) rfl 0 (by decide) kF_X7_7 (fun _ _ _ => rfl) hk_5 dX7_round_96 ?_
        obtain ⟨a_23, he_24, hf⟩ := q_biE hf
        rw [he_24]
        refine lv_iload hx hb dX7_round_99 (lv_at hl 0 rfl) ?_
        refine lv_dup2_11 hx hb dX7_round_101 rfl rfl ?_
        obtain ⟨hz_25, hf⟩ := q_gdE hf
        refine q_iaload E hH hz_25 dX7_round_102 ?_
        refine lv_iconst (v := 1) hx hb dX7_round_103 (by decide) ?_
        refine lv_iadd hx hb dX7_round_104 ?_
        obtain ⟨hz_26, hf⟩ := q_gdE hf
        refine q_iastore E hH hz_26 dX7_round_105 hf (fun M_27 H locs hH hf => ?_)
        refine lv_aload_n hx hb dX7_round_106 rfl (lv_at hl 1 rfl) ?_
        refine q_getR E hH (ci := 7) rfl 0 (by decide) kF_X7_7 (fun _ _ _ => rfl) hk_5 dX7_round_107 ?_
        obtain ⟨a_28, he_29, hf⟩ := q_biE hf
        rw [he_29]
        refine lv_iload hx hb dX7_round_110 (lv_at hl 0 rfl) ?_
        obtain ⟨hz_30, hf⟩ := q_gdE hf
        refine q_iaload E hH hz_30 dX7_round_112 ?_
        cases hf
        exact q_iret E hH dX7_round_113
      · replace hf := q_ifT cc_31 hf
        clear cc_31
        exact bX7_round_49 E hR hcc h Z M _ _ _ _ _ hf hH (lv_sub hl [] rfl)
def fX7_round (h : Nat) (v1 : Int32) (v2 : Int32) (v3 : Int32) (Z : q_Z) (M : q_C) : Option (Int32 × q_C) :=
  if v1 = 0 then
    fX7_round_b9 h v2 v3 (0 : Int32) Z M
  else
    fX7_round_b9 h v2 v3 (1 : Int32) Z M
set_option maxHeartbeats 4000000 in
set_option maxRecDepth 100000 in
theorem bX7_round_0 {cells slots : Nat} (E : q_E p s m meth c cX7_round 5 RX7 (some .int) "round" D cA) (hR : 1 ≤ R.frames ∧ 22 ≤ R.locals) (hcc : cells ≤ R.cells ∧ slots ≤ R.slots) (h : Nat) (v1 : Int32) (v2 : Int32) (v3 : Int32) (Z : q_Z) (M : q_C) (H : Heap) (locs : List Loc) (ls : Array Slot) (r : Int32) (M' : q_C) (hf : fX7_round h v1 v2 v3 Z M = some (r, M')) (hH : q_Hh D cA z0 s Z M H locs) (hl : lv_has ls 5 [(0, .ref h), (1, .int v1), (2, .int v2), (3, .int v3)])  : W p l e R s m args below meth c H locs cells slots (MQ below (q_Q D cA z0 (some (.int r)) Z M') args s cells slots (fun q => z0 ≤ q)) (F0 m 0 ls []) := by
  have hx := E.1
  have hb := E.2.1
  have hown := E.2.2.2.1
  have hT := E.2.2.2.2.2.2.2.1
  unfold fX7_round at hf
  refine lv_iload_n hx hb dX7_round_0 rfl (lv_at hl 1 rfl) ?_
  refine lv_if_eq (tgt := 8) hx hb dX7_round_1 (by decide) (fun cc_34 => ?_) (fun cc_34 => ?_)
  · replace hf := q_ifT cc_34 hf
    clear cc_34
    refine lv_iconst (v := 0) hx hb dX7_round_8 (by decide) ?_
    exact bX7_round_9 E hR hcc h v2 v3 (0 : Int32) Z M _ _ _ _ _ hf hH (lv_sub hl [0, 2, 3] rfl)
  · replace hf := q_ifF cc_34 hf
    clear cc_34
    refine lv_iconst (v := 1) hx hb dX7_round_4 (by decide) ?_
    refine lv_goto (tgt := 9) hx hb dX7_round_5 (by decide) ?_
    exact bX7_round_9 E hR hcc h v2 v3 (1 : Int32) Z M _ _ _ _ _ hf hH (lv_sub hl [0, 2, 3] rfl)
set_option maxRecDepth 100000 in
theorem tX7_round (l : Launch) (D : va_G) (cA : Nat → ClassId) (z0 : Nat) (h : Nat) (v1 : Int32) (v2 : Int32) (v3 : Int32) (Z : q_Z) (M : q_C) (r : Int32) (M' : q_C) (hf : fX7_round h v1 v2 v3 Z M = some (r, M')) : q_Ct l D cA z0 yX7_round cX7_round 5 (some .int) 1 22 [.ref h, .int v1, .int v2, .int v3] Z M (some (.int r)) Z M' 0 0 := by
  (refine q_start (plainFor_of_name (by decide)) (Nat.le_of_ble_eq_true rfl) (fun p e s m below meth c H ls E hH hl => ?_); exact bX7_round_0 E ⟨Nat.le_refl _, Nat.le_refl _⟩ ⟨Nat.le_refl _, Nat.le_refl _⟩ h _ _ _ Z M H [] ls r M' hf hH hl)
def fX7_masses_b20 (h : Nat) (Z : q_Z) (M : q_C) : Option (Int32 × q_C) :=
  q_gd (decide ((0 : Int32) = 0) || decide ((0 : Int32) = 1)) <|
  some ((0 : Int32), M)
set_option maxHeartbeats 4000000 in
set_option maxRecDepth 100000 in
theorem bX7_masses_20 {cells slots : Nat} (E : q_E p s m meth c cX7_masses 3 RX7 (some .boolean) "masses" D cA) (hR : 1 ≤ R.frames ∧ 22 ≤ R.locals) (hcc : cells ≤ R.cells ∧ slots ≤ R.slots) (h : Nat) (Z : q_Z) (M : q_C) (H : Heap) (locs : List Loc) (ls : Array Slot) (r : Int32) (M' : q_C) (hf : fX7_masses_b20 h Z M = some (r, M')) (hH : q_Hh D cA z0 s Z M H locs) (hl : lv_has ls 3 [])  : W p l e R s m args below meth c H locs cells slots (MQ below (q_Q D cA z0 (some (.int r)) Z M') args s cells slots (fun q => z0 ≤ q)) (F0 m 20 ls []) := by
  have hx := E.1
  have hb := E.2.1
  have hown := E.2.2.2.1
  have hT := E.2.2.2.2.2.2.2.1
  unfold fX7_masses_b20 at hf
  refine lv_iconst (v := 0) hx hb dX7_masses_20 (by decide) ?_
  obtain ⟨hz_3, hf⟩ := q_gdE hf
  cases hf
  exact q_zret E hH hz_3 dX7_masses_21
def fX7_masses (h : Nat) (v1 : Int32) (v2 : Int32) (Z : q_Z) (M : q_C) : Option (Int32 × q_C) :=
  Option.bind (fX7_is v1 (0 : Int32) (1000000000 : Int32)) fun r_1 =>
  if r_1 = 0 then
    fX7_masses_b20 h Z M
  else
    Option.bind (fX7_is v2 (0 : Int32) (1000000000 : Int32)) fun r_4 =>
    if r_4 = 0 then
      fX7_masses_b20 h Z M
    else
      q_gd (zK Z h == 17) <|
      Option.bind (gR M h 4) fun a_7 =>
      q_gd (q_ok Z a_7 1 (0 : Int32)) <|
      q_nm (sI M a_7 (0 : Int32).toNatClampNeg v1) fun M_10 =>
      Option.bind (gR M_10 h 4) fun a_11 =>
      q_gd (q_ok Z a_11 1 (1 : Int32)) <|
      q_nm (sI M_10 a_11 (1 : Int32).toNatClampNeg v2) fun M_14 =>
      q_gd (decide ((1 : Int32) = 0) || decide ((1 : Int32) = 1)) <|
      some ((1 : Int32), M_14)
set_option maxHeartbeats 4000000 in
set_option maxRecDepth 100000 in
theorem bX7_masses_0 {cells slots : Nat} (E : q_E p s m meth c cX7_masses 3 RX7 (some .boolean) "masses" D cA) (hR : 1 ≤ R.frames ∧ 22 ≤ R.locals) (hcc : cells ≤ R.cells ∧ slots ≤ R.slots) (h : Nat) (v1 : Int32) (v2 : Int32) (Z : q_Z) (M : q_C) (H : Heap) (locs : List Loc) (ls : Array Slot) (r : Int32) (M' : q_C) (hf : fX7_masses h v1 v2 Z M = some (r, M')) (hH : q_Hh D cA z0 s Z M H locs) (hl : lv_has ls 3 [(0, .ref h), (1, .int v1), (2, .int v2)])  : W p l e R s m args below meth c H locs cells slots (MQ below (q_Q D cA z0 (some (.int r)) Z M') args s cells slots (fun q => z0 ≤ q)) (F0 m 0 ls []) := by
  have hx := E.1
  have hb := E.2.1
  have hown := E.2.2.2.1
  have hT := E.2.2.2.2.2.2.2.1
  unfold fX7_masses at hf
  refine lv_iload_n hx hb dX7_masses_0 rfl (lv_at hl 1 rfl) ?_
  refine lv_iconst (v := 0) hx hb dX7_masses_1 (by decide) ?_
  refine lv_ldc hx hb hown (hT.1 _ _ kK_X7_109) dX7_masses_2 ?_
  obtain ⟨r_1, hw_2, hf⟩ := q_biE hf
  refine q_cS (As := [.int v1, .int (0 : Int32), .int (1000000000 : Int32)]) (rest := []) (st1 := [.int r_1]) E hH (tX7_is l D cA z0 Z M v1 (0 : Int32) (1000000000 : Int32) r_1 hw_2) mw_X7_is mi_X7_is kM_X7_105 hcc rfl rfl rfl hl.1 rfl rfl (Nat.le_of_ble_eq_true rfl) ⟨Nat.le_trans (by decide) hR.1, Nat.le_trans (by decide) hR.2⟩ dX7_masses_4 (fun H locs hH => ?_)
  refine lv_if_eq (tgt := 20) hx hb dX7_masses_7 (by decide) (fun cc_17 => ?_) (fun cc_17 => ?_)
  · replace hf := q_ifT cc_17 hf
    clear cc_17
    exact bX7_masses_20 E hR hcc h Z M _ _ _ _ _ hf hH (lv_sub hl [] rfl)
  · replace hf := q_ifF cc_17 hf
    clear cc_17
    refine lv_iload_n hx hb dX7_masses_10 rfl (lv_at hl 2 rfl) ?_
    refine lv_iconst (v := 0) hx hb dX7_masses_11 (by decide) ?_
    refine lv_ldc hx hb hown (hT.1 _ _ kK_X7_109) dX7_masses_12 ?_
    obtain ⟨r_4, hw_5, hf⟩ := q_biE hf
    refine q_cS (As := [.int v2, .int (0 : Int32), .int (1000000000 : Int32)]) (rest := []) (st1 := [.int r_4]) E hH (tX7_is l D cA z0 Z M v2 (0 : Int32) (1000000000 : Int32) r_4 hw_5) mw_X7_is mi_X7_is kM_X7_105 hcc rfl rfl rfl hl.1 rfl rfl (Nat.le_of_ble_eq_true rfl) ⟨Nat.le_trans (by decide) hR.1, Nat.le_trans (by decide) hR.2⟩ dX7_masses_14 (fun H locs hH => ?_)
    refine lv_if_ne (tgt := 22) hx hb dX7_masses_17 (by decide) (fun cc_16 => ?_) (fun cc_16 => ?_)
    · replace hf := q_ifF cc_16 hf
      clear cc_16
      refine lv_aload_n hx hb dX7_masses_22 rfl (lv_at hl 0 rfl) ?_
      obtain ⟨hk_6, hf⟩ := q_gdE hf
      have hk_6 := q_keq hk_6
      refine q_getR E hH (ci := 7) rfl 4 (by decide) kF_X7_22 (fun _ _ _ => rfl) hk_6 dX7_masses_23 ?_
      obtain ⟨a_7, he_8, hf⟩ := q_biE hf
      rw [he_8]
      refine lv_iconst (v := 0) hx hb dX7_masses_26 (by decide) ?_
      refine lv_iload_n hx hb dX7_masses_27 rfl (lv_at hl 1 rfl) ?_
      obtain ⟨hz_9, hf⟩ := q_gdE hf
      refine q_iastore E hH hz_9 dX7_masses_28 hf (fun M_10 H locs hH hf => ?_)
      refine lv_aload_n hx hb dX7_masses_29 rfl (lv_at hl 0 rfl) ?_
      refine q_getR E hH (ci := 7) rfl 4 (by decide) kF_X7_22 (fun _ _ _ => rfl) hk_6 dX7_masses_30 ?_
      obtain ⟨a_11, he_12, hf⟩ := q_biE hf
      rw [he_12]
      refine lv_iconst (v := 1) hx hb dX7_masses_33 (by decide) ?_
      refine lv_iload_n hx hb dX7_masses_34 rfl (lv_at hl 2 rfl) ?_
      obtain ⟨hz_13, hf⟩ := q_gdE hf
      refine q_iastore E hH hz_13 dX7_masses_35 hf (fun M_14 H locs hH hf => ?_)
      refine lv_iconst (v := 1) hx hb dX7_masses_36 (by decide) ?_
      obtain ⟨hz_15, hf⟩ := q_gdE hf
      cases hf
      exact q_zret E hH hz_15 dX7_masses_37
    · replace hf := q_ifT cc_16 hf
      clear cc_16
      exact bX7_masses_20 E hR hcc h Z M _ _ _ _ _ hf hH (lv_sub hl [] rfl)
set_option maxRecDepth 100000 in
theorem tX7_masses (l : Launch) (D : va_G) (cA : Nat → ClassId) (z0 : Nat) (h : Nat) (v1 : Int32) (v2 : Int32) (Z : q_Z) (M : q_C) (r : Int32) (M' : q_C) (hf : fX7_masses h v1 v2 Z M = some (r, M')) : q_Ct l D cA z0 yX7_masses cX7_masses 3 (some .boolean) 1 22 [.ref h, .int v1, .int v2] Z M (some (.int r)) Z M' 0 0 := by
  (refine q_start (plainFor_of_name (by decide)) (Nat.le_of_ble_eq_true rfl) (fun p e s m below meth c H ls E hH hl => ?_); exact bX7_masses_0 E ⟨Nat.le_refl _, Nat.le_refl _⟩ ⟨Nat.le_refl _, Nat.le_refl _⟩ h _ _ Z M H [] ls r M' hf hH hl)
def fX7_isStep (v0 : Int32) : Option (Int32) :=
  Option.bind (fX7_is v0 (-300 : Int32) (300 : Int32)) fun r_1 =>
  q_gd (decide (r_1 = 0) || decide (r_1 = 1)) <|
  some r_1
set_option maxHeartbeats 4000000 in
set_option maxRecDepth 100000 in
theorem bX7_isStep_0 {cells slots : Nat} (E : q_E p s m meth c cX7_isStep 1 RX7 (some .boolean) "isStep" D cA) (hR : 1 ≤ R.frames ∧ 22 ≤ R.locals) (hcc : cells ≤ R.cells ∧ slots ≤ R.slots) (Z : q_Z) (M : q_C) (v0 : Int32) (H : Heap) (locs : List Loc) (ls : Array Slot) (r : Int32) (hf : fX7_isStep v0 = some r) (hH : q_Hh D cA z0 s Z M H locs) (hl : lv_has ls 1 [(0, .int v0)])  : W p l e R s m args below meth c H locs cells slots (MQ below (q_Q D cA z0 (some (.int r)) Z M) args s cells slots (fun q => z0 ≤ q)) (F0 m 0 ls []) := by
  have hx := E.1
  have hb := E.2.1
  have hown := E.2.2.2.1
  have hT := E.2.2.2.2.2.2.2.1
  unfold fX7_isStep at hf
  refine lv_iload_n hx hb dX7_isStep_0 rfl (lv_at hl 0 rfl) ?_
  refine lv_sipush (v := -300) hx hb dX7_isStep_1 (by decide) ?_
  refine lv_sipush (v := 300) hx hb dX7_isStep_4 (by decide) ?_
  obtain ⟨r_1, hw_2, hf⟩ := q_biE hf
  refine q_cS (As := [.int v0, .int (-300 : Int32), .int (300 : Int32)]) (rest := []) (st1 := [.int r_1]) E hH (tX7_is l D cA z0 Z M v0 (-300 : Int32) (300 : Int32) r_1 hw_2) mw_X7_is mi_X7_is kM_X7_105 hcc rfl rfl rfl hl.1 rfl rfl (Nat.le_of_ble_eq_true rfl) ⟨Nat.le_trans (by decide) hR.1, Nat.le_trans (by decide) hR.2⟩ dX7_isStep_7 (fun H locs hH => ?_)
  obtain ⟨hz_3, hf⟩ := q_gdE hf
  cases hf
  exact q_zret E hH hz_3 dX7_isStep_10
set_option maxRecDepth 100000 in
theorem tX7_isStep (l : Launch) (D : va_G) (cA : Nat → ClassId) (z0 : Nat) (Z : q_Z) (M : q_C) (v0 : Int32) (r : Int32) (hf : fX7_isStep v0 = some r) : q_Ct l D cA z0 yX7_isStep cX7_isStep 1 (some .boolean) 1 22 [.int v0] Z M (some (.int r)) Z M 0 0 := by
  (refine q_start (plainFor_of_name (by decide)) (Nat.le_of_ble_eq_true rfl) (fun p e s m below meth c H ls E hH hl => ?_); exact bX7_isStep_0 E ⟨Nat.le_refl _, Nat.le_refl _⟩ ⟨Nat.le_refl _, Nat.le_refl _⟩ Z M _ H [] ls r hf hH hl)
def fX7_sight_b73 (h : Nat) (Z : q_Z) (M : q_C) : Option (Int32 × q_C) :=
  some ((-1 : Int32), M)
set_option maxHeartbeats 4000000 in
set_option maxRecDepth 100000 in
theorem bX7_sight_73 {cells slots : Nat} (E : q_E p s m meth c cX7_sight 7 RX7 (some .int) "sight" D cA) (hR : 2 ≤ R.frames ∧ 42 ≤ R.locals) (hcc : cells ≤ R.cells ∧ slots ≤ R.slots) (h : Nat) (Z : q_Z) (M : q_C) (H : Heap) (locs : List Loc) (ls : Array Slot) (r : Int32) (M' : q_C) (hf : fX7_sight_b73 h Z M = some (r, M')) (hH : q_Hh D cA z0 s Z M H locs) (hl : lv_has ls 7 [])  : W p l e R s m args below meth c H locs cells slots (MQ below (q_Q D cA z0 (some (.int r)) Z M') args s cells slots (fun q => z0 ≤ q)) (F0 m 73 ls []) := by
  have hx := E.1
  have hb := E.2.1
  have hown := E.2.2.2.1
  have hT := E.2.2.2.2.2.2.2.1
  unfold fX7_sight_b73 at hf
  refine lv_iconst (v := -1) hx hb dX7_sight_73 (by decide) ?_
  cases hf
  exact q_iret E hH dX7_sight_74
def fX7_sight_b52 (h : Nat) (v1 : Int32) (v2 : Int32) (v3 : Int32) (v4 : Int32) (v5 : Int32) (Z : q_Z) (M : q_C) : Option (Int32 × q_C) :=
  Option.bind (fX7_is v5 (0 : Int32) (1000 : Int32)) fun r_9 =>
  if r_9 = 0 then
    fX7_sight_b73 h Z M
  else
    q_gd (zK Z h == 17) <|
    if gI M h 6 = (12 : Int32) then
      fX7_sight_b73 h Z M
    else
      q_nm ((5 : Int32) * (gI M h 6)) fun v6_12 =>
      Option.bind (gR M h 7) fun a_14 =>
      q_gd (q_ok Z a_14 1 v6_12) <|
      q_nm (sI M a_14 v6_12.toNatClampNeg v1) fun M_17 =>
      Option.bind (gR M_17 h 7) fun a_18 =>
      q_gd (q_ok Z a_18 1 (v6_12 + (1 : Int32))) <|
      q_nm (sI M_17 a_18 (v6_12 + (1 : Int32)).toNatClampNeg v2) fun M_21 =>
      Option.bind (gR M_21 h 7) fun a_22 =>
      q_gd (q_ok Z a_22 1 (v6_12 + (2 : Int32))) <|
      q_nm (sI M_21 a_22 (v6_12 + (2 : Int32)).toNatClampNeg v3) fun M_25 =>
      Option.bind (gR M_25 h 7) fun a_26 =>
      q_gd (q_ok Z a_26 1 (v6_12 + (3 : Int32))) <|
      q_nm (sI M_25 a_26 (v6_12 + (3 : Int32)).toNatClampNeg v4) fun M_29 =>
      Option.bind (gR M_29 h 7) fun a_30 =>
      q_gd (q_ok Z a_30 1 (v6_12 + (4 : Int32))) <|
      q_nm (sI M_29 a_30 (v6_12 + (4 : Int32)).toNatClampNeg v5) fun M_33 =>
      q_nm (sI M_33 h 6 ((gI M_33 h 6) + (1 : Int32))) fun M_34 =>
      some (((gI M_34 h 6) - (1 : Int32)), M_34)
set_option maxHeartbeats 4000000 in
set_option maxRecDepth 100000 in
theorem bX7_sight_52 {cells slots : Nat} (E : q_E p s m meth c cX7_sight 7 RX7 (some .int) "sight" D cA) (hR : 2 ≤ R.frames ∧ 42 ≤ R.locals) (hcc : cells ≤ R.cells ∧ slots ≤ R.slots) (h : Nat) (v1 : Int32) (v2 : Int32) (v3 : Int32) (v4 : Int32) (v5 : Int32) (Z : q_Z) (M : q_C) (H : Heap) (locs : List Loc) (ls : Array Slot) (r : Int32) (M' : q_C) (hf : fX7_sight_b52 h v1 v2 v3 v4 v5 Z M = some (r, M')) (hH : q_Hh D cA z0 s Z M H locs) (hl : lv_has ls 7 [(0, .ref h), (1, .int v1), (2, .int v2), (3, .int v3), (4, .int v4), (5, .int v5)])  : W p l e R s m args below meth c H locs cells slots (MQ below (q_Q D cA z0 (some (.int r)) Z M') args s cells slots (fun q => z0 ≤ q)) (F0 m 52 ls []) := by
  have hx := E.1
  have hb := E.2.1
  have hown := E.2.2.2.1
  have hT := E.2.2.2.2.2.2.2.1
  unfold fX7_sight_b52 at hf
  refine lv_iload hx hb dX7_sight_52 (lv_at hl 5 rfl) ?_
  refine lv_iconst (v := 0) hx hb dX7_sight_54 (by decide) ?_
  refine lv_sipush (v := 1000) hx hb dX7_sight_55 (by decide) ?_
  obtain ⟨r_9, hw_10, hf⟩ := q_biE hf
  refine q_cS (As := [.int v5, .int (0 : Int32), .int (1000 : Int32)]) (rest := []) (st1 := [.int r_9]) E hH (tX7_is l D cA z0 Z M v5 (0 : Int32) (1000 : Int32) r_9 hw_10) mw_X7_is mi_X7_is kM_X7_105 hcc rfl rfl rfl hl.1 rfl rfl (Nat.le_of_ble_eq_true rfl) ⟨Nat.le_trans (by decide) hR.1, Nat.le_trans (by decide) hR.2⟩ dX7_sight_58 (fun H locs hH => ?_)
  refine lv_if_eq (tgt := 73) hx hb dX7_sight_61 (by decide) (fun cc_36 => ?_) (fun cc_36 => ?_)
  · replace hf := q_ifT cc_36 hf
    clear cc_36
    exact bX7_sight_73 E hR hcc h Z M _ _ _ _ _ hf hH (lv_sub hl [] rfl)
  · replace hf := q_ifF cc_36 hf
    clear cc_36
    refine lv_aload_n hx hb dX7_sight_64 rfl (lv_at hl 0 rfl) ?_
    obtain ⟨hk_11, hf⟩ := q_gdE hf
    have hk_11 := q_keq hk_11
    refine q_getI E hH (ci := 7) rfl 6 (by decide) kF_X7_28 (fun _ _ _ => rfl) hk_11 dX7_sight_65 ?_
    refine lv_bipush (v := 12) hx hb dX7_sight_68 (by decide) ?_
    refine lv_icmp_ne (tgt := 75) hx hb dX7_sight_70 (by decide) (fun cc_35 => ?_) (fun cc_35 => ?_)
    · replace hf := q_ifF cc_35 hf
      clear cc_35
      refine lv_iconst (v := 5) hx hb dX7_sight_75 (by decide) ?_
      refine lv_aload_n hx hb dX7_sight_76 rfl (lv_at hl 0 rfl) ?_
      refine q_getI E hH (ci := 7) rfl 6 (by decide) kF_X7_28 (fun _ _ _ => rfl) hk_11 dX7_sight_77 ?_
      refine lv_imul hx hb dX7_sight_80 ?_
      refine lv_topi (fun v6_12 hn_13 => ?_)
      replace hf := q_nmE hn_13 hf
      clear hn_13
      refine lv_istore (lv' := [(6, .int v6_12), (0, .ref h), (1, .int v1), (2, .int v2), (3, .int v3), (4, .int v4), (5, .int v5)]) hx hb dX7_sight_81 hl (by decide) rfl (fun ls hl => ?_)
      refine lv_aload_n hx hb dX7_sight_83 rfl (lv_at hl 1 rfl) ?_
      refine q_getR E hH (ci := 7) rfl 7 (by decide) kF_X7_32 (fun _ _ _ => rfl) hk_11 dX7_sight_84 ?_
      obtain ⟨a_14, he_15, hf⟩ := q_biE hf
      rw [he_15]
      refine lv_iload hx hb dX7_sight_87 (lv_at hl 0 rfl) ?_
      refine lv_iload_n hx hb dX7_sight_89 rfl (lv_at hl 2 rfl) ?_
      obtain ⟨hz_16, hf⟩ := q_gdE hf
      refine q_iastore E hH hz_16 dX7_sight_90 hf (fun M_17 H locs hH hf => ?_)
      refine lv_aload_n hx hb dX7_sight_91 rfl (lv_at hl 1 rfl) ?_
      refine q_getR E hH (ci := 7) rfl 7 (by decide) kF_X7_32 (fun _ _ _ => rfl) hk_11 dX7_sight_92 ?_
      obtain ⟨a_18, he_19, hf⟩ := q_biE hf
      rw [he_19]
      refine lv_iload hx hb dX7_sight_95 (lv_at hl 0 rfl) ?_
      refine lv_iconst (v := 1) hx hb dX7_sight_97 (by decide) ?_
      refine lv_iadd hx hb dX7_sight_98 ?_
      refine lv_iload_n hx hb dX7_sight_99 rfl (lv_at hl 3 rfl) ?_
      obtain ⟨hz_20, hf⟩ := q_gdE hf
      refine q_iastore E hH hz_20 dX7_sight_100 hf (fun M_21 H locs hH hf => ?_)
      refine lv_aload_n hx hb dX7_sight_101 rfl (lv_at hl 1 rfl) ?_
      refine q_getR E hH (ci := 7) rfl 7 (by decide) kF_X7_32 (fun _ _ _ => rfl) hk_11 dX7_sight_102 ?_
      obtain ⟨a_22, he_23, hf⟩ := q_biE hf
      rw [he_23]
      refine lv_iload hx hb dX7_sight_105 (lv_at hl 0 rfl) ?_
      refine lv_iconst (v := 2) hx hb dX7_sight_107 (by decide) ?_
      refine lv_iadd hx hb dX7_sight_108 ?_
      refine lv_iload_n hx hb dX7_sight_109 rfl (lv_at hl 4 rfl) ?_
      obtain ⟨hz_24, hf⟩ := q_gdE hf
      refine q_iastore E hH hz_24 dX7_sight_110 hf (fun M_25 H locs hH hf => ?_)
      refine lv_aload_n hx hb dX7_sight_111 rfl (lv_at hl 1 rfl) ?_
      refine q_getR E hH (ci := 7) rfl 7 (by decide) kF_X7_32 (fun _ _ _ => rfl) hk_11 dX7_sight_112 ?_
      obtain ⟨a_26, he_27, hf⟩ := q_biE hf
      rw [he_27]
      refine lv_iload hx hb dX7_sight_115 (lv_at hl 0 rfl) ?_
      refine lv_iconst (v := 3) hx hb dX7_sight_117 (by decide) ?_
      refine lv_iadd hx hb dX7_sight_118 ?_
      refine lv_iload hx hb dX7_sight_119 (lv_at hl 5 rfl) ?_
      obtain ⟨hz_28, hf⟩ := q_gdE hf
      refine q_iastore E hH hz_28 dX7_sight_121 hf (fun M_29 H locs hH hf => ?_)
      refine lv_aload_n hx hb dX7_sight_122 rfl (lv_at hl 1 rfl) ?_
      refine q_getR E hH (ci := 7) rfl 7 (by decide) kF_X7_32 (fun _ _ _ => rfl) hk_11 dX7_sight_123 ?_
      obtain ⟨a_30, he_31, hf⟩ := q_biE hf
      rw [he_31]
      refine lv_iload hx hb dX7_sight_126 (lv_at hl 0 rfl) ?_
      refine lv_iconst (v := 4) hx hb dX7_sight_128 (by decide) ?_
      refine lv_iadd hx hb dX7_sight_129 ?_
      refine lv_iload hx hb dX7_sight_130 (lv_at hl 6 rfl) ?_
      obtain ⟨hz_32, hf⟩ := q_gdE hf
      refine q_iastore E hH hz_32 dX7_sight_132 hf (fun M_33 H locs hH hf => ?_)
      refine lv_aload_n hx hb dX7_sight_133 rfl (lv_at hl 1 rfl) ?_
      refine lv_dup hx hb dX7_sight_134 rfl ?_
      refine q_getI E hH (ci := 7) rfl 6 (by decide) kF_X7_28 (fun _ _ _ => rfl) hk_11 dX7_sight_135 ?_
      refine lv_iconst (v := 1) hx hb dX7_sight_138 (by decide) ?_
      refine lv_iadd hx hb dX7_sight_139 ?_
      refine q_putI E hH (ci := 7) rfl 6 (by decide) kF_X7_28 rfl (fun _ _ _ => rfl) (x := (gI M_33 h 6) + (1 : Int32)) hk_11 rfl rfl dX7_sight_140 hf (fun M_34 H locs hH hf => ?_)
      refine lv_aload_n hx hb dX7_sight_143 rfl (lv_at hl 1 rfl) ?_
      refine q_getI E hH (ci := 7) rfl 6 (by decide) kF_X7_28 (fun _ _ _ => rfl) hk_11 dX7_sight_144 ?_
      refine lv_iconst (v := 1) hx hb dX7_sight_147 (by decide) ?_
      refine lv_isub hx hb dX7_sight_148 ?_
      cases hf
      exact q_iret E hH dX7_sight_149
    · replace hf := q_ifT cc_35 hf
      clear cc_35
      exact bX7_sight_73 E hR hcc h Z M _ _ _ _ _ hf hH (lv_sub hl [] rfl)
def fX7_sight (h : Nat) (v1 : Int32) (v2 : Int32) (v3 : Int32) (v4 : Int32) (v5 : Int32) (Z : q_Z) (M : q_C) : Option (Int32 × q_C) :=
  Option.bind (fX7_is v1 (0 : Int32) (2 : Int32)) fun r_1 =>
  if r_1 = 0 then
    fX7_sight_b73 h Z M
  else
    Option.bind (fX7_isStep v2) fun r_3 =>
    if r_3 = 0 then
      fX7_sight_b73 h Z M
    else
      Option.bind (fX7_is v3 (-1000 : Int32) (1000 : Int32)) fun r_5 =>
      if r_5 = 0 then
        fX7_sight_b73 h Z M
      else
        Option.bind (fX7_is v4 (-1000 : Int32) (1000 : Int32)) fun r_7 =>
        if r_7 = 0 then
          fX7_sight_b73 h Z M
        else
          if v3 = 0 then
            if v4 = 0 then
              fX7_sight_b73 h Z M
            else
              fX7_sight_b52 h v1 v2 v3 v4 v5 Z M
          else
            fX7_sight_b52 h v1 v2 v3 v4 v5 Z M
set_option maxHeartbeats 4000000 in
set_option maxRecDepth 100000 in
theorem bX7_sight_0 {cells slots : Nat} (E : q_E p s m meth c cX7_sight 7 RX7 (some .int) "sight" D cA) (hR : 2 ≤ R.frames ∧ 42 ≤ R.locals) (hcc : cells ≤ R.cells ∧ slots ≤ R.slots) (h : Nat) (v1 : Int32) (v2 : Int32) (v3 : Int32) (v4 : Int32) (v5 : Int32) (Z : q_Z) (M : q_C) (H : Heap) (locs : List Loc) (ls : Array Slot) (r : Int32) (M' : q_C) (hf : fX7_sight h v1 v2 v3 v4 v5 Z M = some (r, M')) (hH : q_Hh D cA z0 s Z M H locs) (hl : lv_has ls 7 [(0, .ref h), (1, .int v1), (2, .int v2), (3, .int v3), (4, .int v4), (5, .int v5)])  : W p l e R s m args below meth c H locs cells slots (MQ below (q_Q D cA z0 (some (.int r)) Z M') args s cells slots (fun q => z0 ≤ q)) (F0 m 0 ls []) := by
  have hx := E.1
  have hb := E.2.1
  have hown := E.2.2.2.1
  have hT := E.2.2.2.2.2.2.2.1
  unfold fX7_sight at hf
  refine lv_iload_n hx hb dX7_sight_0 rfl (lv_at hl 1 rfl) ?_
  refine lv_iconst (v := 0) hx hb dX7_sight_1 (by decide) ?_
  refine lv_iconst (v := 2) hx hb dX7_sight_2 (by decide) ?_
  obtain ⟨r_1, hw_2, hf⟩ := q_biE hf
  refine q_cS (As := [.int v1, .int (0 : Int32), .int (2 : Int32)]) (rest := []) (st1 := [.int r_1]) E hH (tX7_is l D cA z0 Z M v1 (0 : Int32) (2 : Int32) r_1 hw_2) mw_X7_is mi_X7_is kM_X7_105 hcc rfl rfl rfl hl.1 rfl rfl (Nat.le_of_ble_eq_true rfl) ⟨Nat.le_trans (by decide) hR.1, Nat.le_trans (by decide) hR.2⟩ dX7_sight_3 (fun H locs hH => ?_)
  refine lv_if_eq (tgt := 73) hx hb dX7_sight_6 (by decide) (fun cc_42 => ?_) (fun cc_42 => ?_)
  · replace hf := q_ifT cc_42 hf
    clear cc_42
    exact bX7_sight_73 E hR hcc h Z M _ _ _ _ _ hf hH (lv_sub hl [] rfl)
  · replace hf := q_ifF cc_42 hf
    clear cc_42
    refine lv_iload_n hx hb dX7_sight_9 rfl (lv_at hl 2 rfl) ?_
    obtain ⟨r_3, hw_4, hf⟩ := q_biE hf
    refine q_cS (As := [.int v2]) (rest := []) (st1 := [.int r_3]) E hH (tX7_isStep l D cA z0 Z M v2 r_3 hw_4) mw_X7_isStep mi_X7_isStep kM_X7_110 hcc rfl rfl rfl hl.1 rfl rfl (Nat.le_of_ble_eq_true rfl) ⟨Nat.le_trans (by decide) hR.1, Nat.le_trans (by decide) hR.2⟩ dX7_sight_10 (fun H locs hH => ?_)
    refine lv_if_eq (tgt := 73) hx hb dX7_sight_13 (by decide) (fun cc_41 => ?_) (fun cc_41 => ?_)
    · replace hf := q_ifT cc_41 hf
      clear cc_41
      exact bX7_sight_73 E hR hcc h Z M _ _ _ _ _ hf hH (lv_sub hl [] rfl)
    · replace hf := q_ifF cc_41 hf
      clear cc_41
      refine lv_iload_n hx hb dX7_sight_16 rfl (lv_at hl 3 rfl) ?_
      refine lv_sipush (v := -1000) hx hb dX7_sight_17 (by decide) ?_
      refine lv_sipush (v := 1000) hx hb dX7_sight_20 (by decide) ?_
      obtain ⟨r_5, hw_6, hf⟩ := q_biE hf
      refine q_cS (As := [.int v3, .int (-1000 : Int32), .int (1000 : Int32)]) (rest := []) (st1 := [.int r_5]) E hH (tX7_is l D cA z0 Z M v3 (-1000 : Int32) (1000 : Int32) r_5 hw_6) mw_X7_is mi_X7_is kM_X7_105 hcc rfl rfl rfl hl.1 rfl rfl (Nat.le_of_ble_eq_true rfl) ⟨Nat.le_trans (by decide) hR.1, Nat.le_trans (by decide) hR.2⟩ dX7_sight_23 (fun H locs hH => ?_)
      refine lv_if_eq (tgt := 73) hx hb dX7_sight_26 (by decide) (fun cc_40 => ?_) (fun cc_40 => ?_)
      · replace hf := q_ifT cc_40 hf
        clear cc_40
        exact bX7_sight_73 E hR hcc h Z M _ _ _ _ _ hf hH (lv_sub hl [] rfl)
      · replace hf := q_ifF cc_40 hf
        clear cc_40
        refine lv_iload hx hb dX7_sight_29 (lv_at hl 4 rfl) ?_
        refine lv_sipush (v := -1000) hx hb dX7_sight_31 (by decide) ?_
        refine lv_sipush (v := 1000) hx hb dX7_sight_34 (by decide) ?_
        obtain ⟨r_7, hw_8, hf⟩ := q_biE hf
        refine q_cS (As := [.int v4, .int (-1000 : Int32), .int (1000 : Int32)]) (rest := []) (st1 := [.int r_7]) E hH (tX7_is l D cA z0 Z M v4 (-1000 : Int32) (1000 : Int32) r_7 hw_8) mw_X7_is mi_X7_is kM_X7_105 hcc rfl rfl rfl hl.1 rfl rfl (Nat.le_of_ble_eq_true rfl) ⟨Nat.le_trans (by decide) hR.1, Nat.le_trans (by decide) hR.2⟩ dX7_sight_37 (fun H locs hH => ?_)
        refine lv_if_eq (tgt := 73) hx hb dX7_sight_40 (by decide) (fun cc_39 => ?_) (fun cc_39 => ?_)
        · replace hf := q_ifT cc_39 hf
          clear cc_39
          exact bX7_sight_73 E hR hcc h Z M _ _ _ _ _ hf hH (lv_sub hl [] rfl)
        · replace hf := q_ifF cc_39 hf
          clear cc_39
          refine lv_iload_n hx hb dX7_sight_43 rfl (lv_at hl 3 rfl) ?_
          refine lv_if_ne (tgt := 52) hx hb dX7_sight_44 (by decide) (fun cc_38 => ?_) (fun cc_38 => ?_)
          · replace hf := q_ifF cc_38 hf
            clear cc_38
            exact bX7_sight_52 E hR hcc h v1 v2 v3 v4 v5 Z M _ _ _ _ _ hf hH (lv_sub hl [0, 1, 2, 3, 4, 5] rfl)
          · replace hf := q_ifT cc_38 hf
            clear cc_38
            refine lv_iload hx hb dX7_sight_47 (lv_at hl 4 rfl) ?_
            refine lv_if_eq (tgt := 73) hx hb dX7_sight_49 (by decide) (fun cc_37 => ?_) (fun cc_37 => ?_)
            · replace hf := q_ifT cc_37 hf
              clear cc_37
              exact bX7_sight_73 E hR hcc h Z M _ _ _ _ _ hf hH (lv_sub hl [] rfl)
            · replace hf := q_ifF cc_37 hf
              clear cc_37
              exact bX7_sight_52 E hR hcc h v1 v2 v3 v4 v5 Z M _ _ _ _ _ hf hH (lv_sub hl [0, 1, 2, 3, 4, 5] rfl)
set_option maxRecDepth 100000 in
theorem tX7_sight (l : Launch) (D : va_G) (cA : Nat → ClassId) (z0 : Nat) (h : Nat) (v1 : Int32) (v2 : Int32) (v3 : Int32) (v4 : Int32) (v5 : Int32) (Z : q_Z) (M : q_C) (r : Int32) (M' : q_C) (hf : fX7_sight h v1 v2 v3 v4 v5 Z M = some (r, M')) : q_Ct l D cA z0 yX7_sight cX7_sight 7 (some .int) 2 42 [.ref h, .int v1, .int v2, .int v3, .int v4, .int v5] Z M (some (.int r)) Z M' 0 0 := by
  (refine q_start (plainFor_of_name (by decide)) (Nat.le_of_ble_eq_true rfl) (fun p e s m below meth c H ls E hH hl => ?_); exact bX7_sight_0 E ⟨Nat.le_refl _, Nat.le_refl _⟩ ⟨Nat.le_refl _, Nat.le_refl _⟩ h _ _ _ _ _ Z M H [] ls r M' hf hH hl)
def fX7_isSight_b17 (h : Nat) (s0 : Int32) (Z : q_Z) (M : q_C) : Option (Int32) :=
  q_gd (decide (s0 = 0) || decide (s0 = 1)) <|
  some s0
set_option maxHeartbeats 4000000 in
set_option maxRecDepth 100000 in
theorem bX7_isSight_17 {cells slots : Nat} (E : q_E p s m meth c cX7_isSight 2 RX7 (some .boolean) "isSight" D cA) (hR : 0 ≤ R.frames ∧ 0 ≤ R.locals) (hcc : cells ≤ R.cells ∧ slots ≤ R.slots) (h : Nat) (s0 : Int32) (Z : q_Z) (M : q_C) (H : Heap) (locs : List Loc) (ls : Array Slot) (r : Int32) (hf : fX7_isSight_b17 h s0 Z M = some r) (hH : q_Hh D cA z0 s Z M H locs) (hl : lv_has ls 2 [])  : W p l e R s m args below meth c H locs cells slots (MQ below (q_Q D cA z0 (some (.int r)) Z M) args s cells slots (fun q => z0 ≤ q)) (F0 m 17 ls [.int s0]) := by
  have hx := E.1
  have hb := E.2.1
  have hown := E.2.2.2.1
  have hT := E.2.2.2.2.2.2.2.1
  unfold fX7_isSight_b17 at hf
  obtain ⟨hz_1, hf⟩ := q_gdE hf
  cases hf
  exact q_zret E hH hz_1 dX7_isSight_17
def fX7_isSight_b16 (h : Nat) (Z : q_Z) (M : q_C) : Option (Int32) :=
  fX7_isSight_b17 h (0 : Int32) Z M
set_option maxHeartbeats 4000000 in
set_option maxRecDepth 100000 in
theorem bX7_isSight_16 {cells slots : Nat} (E : q_E p s m meth c cX7_isSight 2 RX7 (some .boolean) "isSight" D cA) (hR : 0 ≤ R.frames ∧ 0 ≤ R.locals) (hcc : cells ≤ R.cells ∧ slots ≤ R.slots) (h : Nat) (Z : q_Z) (M : q_C) (H : Heap) (locs : List Loc) (ls : Array Slot) (r : Int32) (hf : fX7_isSight_b16 h Z M = some r) (hH : q_Hh D cA z0 s Z M H locs) (hl : lv_has ls 2 [])  : W p l e R s m args below meth c H locs cells slots (MQ below (q_Q D cA z0 (some (.int r)) Z M) args s cells slots (fun q => z0 ≤ q)) (F0 m 16 ls []) := by
  have hx := E.1
  have hb := E.2.1
  have hown := E.2.2.2.1
  have hT := E.2.2.2.2.2.2.2.1
  unfold fX7_isSight_b16 at hf
  refine lv_iconst (v := 0) hx hb dX7_isSight_16 (by decide) ?_
  exact bX7_isSight_17 E hR hcc h (0 : Int32) Z M _ _ _ _ hf hH (lv_sub hl [] rfl)
def fX7_isSight (h : Nat) (v1 : Int32) (Z : q_Z) (M : q_C) : Option (Int32) :=
  if v1 < 0 then
    fX7_isSight_b16 h Z M
  else
    q_gd (zK Z h == 17) <|
    if gI M h 6 ≤ v1 then
      fX7_isSight_b16 h Z M
    else
      fX7_isSight_b17 h (1 : Int32) Z M
set_option maxHeartbeats 4000000 in
set_option maxRecDepth 100000 in
theorem bX7_isSight_0 {cells slots : Nat} (E : q_E p s m meth c cX7_isSight 2 RX7 (some .boolean) "isSight" D cA) (hR : 0 ≤ R.frames ∧ 0 ≤ R.locals) (hcc : cells ≤ R.cells ∧ slots ≤ R.slots) (h : Nat) (v1 : Int32) (Z : q_Z) (M : q_C) (H : Heap) (locs : List Loc) (ls : Array Slot) (r : Int32) (hf : fX7_isSight h v1 Z M = some r) (hH : q_Hh D cA z0 s Z M H locs) (hl : lv_has ls 2 [(0, .ref h), (1, .int v1)])  : W p l e R s m args below meth c H locs cells slots (MQ below (q_Q D cA z0 (some (.int r)) Z M) args s cells slots (fun q => z0 ≤ q)) (F0 m 0 ls []) := by
  have hx := E.1
  have hb := E.2.1
  have hown := E.2.2.2.1
  have hT := E.2.2.2.2.2.2.2.1
  unfold fX7_isSight at hf
  refine lv_iload_n hx hb dX7_isSight_0 rfl (lv_at hl 1 rfl) ?_
  refine lv_if_lt (tgt := 16) hx hb dX7_isSight_1 (by decide) (fun cc_4 => ?_) (fun cc_4 => ?_)
  · replace hf := q_ifT cc_4 hf
    clear cc_4
    exact bX7_isSight_16 E hR hcc h Z M _ _ _ _ hf hH (lv_sub hl [] rfl)
  · replace hf := q_ifF cc_4 hf
    clear cc_4
    refine lv_iload_n hx hb dX7_isSight_4 rfl (lv_at hl 1 rfl) ?_
    refine lv_aload_n hx hb dX7_isSight_5 rfl (lv_at hl 0 rfl) ?_
    obtain ⟨hk_2, hf⟩ := q_gdE hf
    have hk_2 := q_keq hk_2
    refine q_getI E hH (ci := 7) rfl 6 (by decide) kF_X7_28 (fun _ _ _ => rfl) hk_2 dX7_isSight_6 ?_
    refine lv_icmp_ge (tgt := 16) hx hb dX7_isSight_9 (by decide) (fun cc_3 => ?_) (fun cc_3 => ?_)
    · replace hf := q_ifT cc_3 hf
      clear cc_3
      exact bX7_isSight_16 E hR hcc h Z M _ _ _ _ hf hH (lv_sub hl [] rfl)
    · replace hf := q_ifF cc_3 hf
      clear cc_3
      refine lv_iconst (v := 1) hx hb dX7_isSight_12 (by decide) ?_
      refine lv_goto (tgt := 17) hx hb dX7_isSight_13 (by decide) ?_
      exact bX7_isSight_17 E hR hcc h (1 : Int32) Z M _ _ _ _ hf hH (lv_sub hl [] rfl)
set_option maxRecDepth 100000 in
theorem tX7_isSight (l : Launch) (D : va_G) (cA : Nat → ClassId) (z0 : Nat) (h : Nat) (v1 : Int32) (Z : q_Z) (M : q_C) (r : Int32) (hf : fX7_isSight h v1 Z M = some r) : q_Ct l D cA z0 yX7_isSight cX7_isSight 2 (some .boolean) 0 0 [.ref h, .int v1] Z M (some (.int r)) Z M 0 0 := by
  (refine q_start (plainFor_of_name (by decide)) (Nat.le_of_ble_eq_true rfl) (fun p e s m below meth c H ls E hH hl => ?_); exact bX7_isSight_0 E ⟨Nat.le_refl _, Nat.le_refl _⟩ ⟨Nat.le_refl _, Nat.le_refl _⟩ h _ Z M H [] ls r hf hH hl)
def fX7_miss_b19 (h : Nat) (Z : q_Z) (M : q_C) : Option (Int32 × q_C) :=
  some ((-1 : Int32), M)
set_option maxHeartbeats 4000000 in
set_option maxRecDepth 100000 in
theorem bX7_miss_19 {cells slots : Nat} (E : q_E p s m meth c cX7_miss 4 RX7 (some .int) "miss" D cA) (hR : 1 ≤ R.frames ∧ 22 ≤ R.locals) (hcc : cells ≤ R.cells ∧ slots ≤ R.slots) (h : Nat) (Z : q_Z) (M : q_C) (H : Heap) (locs : List Loc) (ls : Array Slot) (r : Int32) (M' : q_C) (hf : fX7_miss_b19 h Z M = some (r, M')) (hH : q_Hh D cA z0 s Z M H locs) (hl : lv_has ls 4 [])  : W p l e R s m args below meth c H locs cells slots (MQ below (q_Q D cA z0 (some (.int r)) Z M') args s cells slots (fun q => z0 ≤ q)) (F0 m 19 ls []) := by
  have hx := E.1
  have hb := E.2.1
  have hown := E.2.2.2.1
  have hT := E.2.2.2.2.2.2.2.1
  unfold fX7_miss_b19 at hf
  refine lv_iconst (v := -1) hx hb dX7_miss_19 (by decide) ?_
  cases hf
  exact q_iret E hH dX7_miss_20
def fX7_miss (h : Nat) (v1 : Int32) (v2 : Int32) (Z : q_Z) (M : q_C) : Option (Int32 × q_C) :=
  q_gd (zK Z h == 17) <|
  Option.bind (fX7_isSight h v1 Z M) fun r_2 =>
  if r_2 = 0 then
    fX7_miss_b19 h Z M
  else
    Option.bind (fX7_is v2 (0 : Int32) (1000 : Int32)) fun r_4 =>
    if r_4 = 0 then
      fX7_miss_b19 h Z M
    else
      Option.bind (gR M h 7) fun a_6 =>
      q_gd (q_ok Z a_6 1 (((5 : Int32) * v1) + (4 : Int32))) <|
      q_nm (gI M a_6 (((5 : Int32) * v1) + (4 : Int32)).toNatClampNeg) fun v3_9 =>
      Option.bind (gR M h 7) fun a_11 =>
      q_gd (q_ok Z a_11 1 (((5 : Int32) * v1) + (4 : Int32))) <|
      q_nm (sI M a_11 (((5 : Int32) * v1) + (4 : Int32)).toNatClampNeg v2) fun M_14 =>
      some (v3_9, M_14)
set_option maxHeartbeats 4000000 in
set_option maxRecDepth 100000 in
theorem bX7_miss_0 {cells slots : Nat} (E : q_E p s m meth c cX7_miss 4 RX7 (some .int) "miss" D cA) (hR : 1 ≤ R.frames ∧ 22 ≤ R.locals) (hcc : cells ≤ R.cells ∧ slots ≤ R.slots) (h : Nat) (v1 : Int32) (v2 : Int32) (Z : q_Z) (M : q_C) (H : Heap) (locs : List Loc) (ls : Array Slot) (r : Int32) (M' : q_C) (hf : fX7_miss h v1 v2 Z M = some (r, M')) (hH : q_Hh D cA z0 s Z M H locs) (hl : lv_has ls 4 [(0, .ref h), (1, .int v1), (2, .int v2)])  : W p l e R s m args below meth c H locs cells slots (MQ below (q_Q D cA z0 (some (.int r)) Z M') args s cells slots (fun q => z0 ≤ q)) (F0 m 0 ls []) := by
  have hx := E.1
  have hb := E.2.1
  have hown := E.2.2.2.1
  have hT := E.2.2.2.2.2.2.2.1
  unfold fX7_miss at hf
  refine lv_aload_n hx hb dX7_miss_0 rfl (lv_at hl 0 rfl) ?_
  refine lv_iload_n hx hb dX7_miss_1 rfl (lv_at hl 1 rfl) ?_
  obtain ⟨hk_1, hf⟩ := q_gdE hf
  have hk_1 := q_keq hk_1
  obtain ⟨r_2, hw_3, hf⟩ := q_biE hf
  refine q_cV (As := [.int v1]) (rest := []) (st1 := [.int r_2]) E hH (tX7_isSight l D cA z0 h v1 Z M r_2 hw_3) mw_X7_isSight mi_X7_isSight (ci := 7) rfl ms_X7_isSight kM_X7_114 hk_1 hcc rfl rfl rfl hl.1 rfl rfl (Nat.le_of_ble_eq_true rfl) ⟨Nat.le_trans (by decide) hR.1, Nat.le_trans (by decide) hR.2⟩ dX7_miss_2 (fun H locs hH => ?_)
  refine lv_if_eq (tgt := 19) hx hb dX7_miss_5 (by decide) (fun cc_16 => ?_) (fun cc_16 => ?_)
  · replace hf := q_ifT cc_16 hf
    clear cc_16
    exact bX7_miss_19 E hR hcc h Z M _ _ _ _ _ hf hH (lv_sub hl [] rfl)
  · replace hf := q_ifF cc_16 hf
    clear cc_16
    refine lv_iload_n hx hb dX7_miss_8 rfl (lv_at hl 2 rfl) ?_
    refine lv_iconst (v := 0) hx hb dX7_miss_9 (by decide) ?_
    refine lv_sipush (v := 1000) hx hb dX7_miss_10 (by decide) ?_
    obtain ⟨r_4, hw_5, hf⟩ := q_biE hf
    refine q_cS (As := [.int v2, .int (0 : Int32), .int (1000 : Int32)]) (rest := []) (st1 := [.int r_4]) E hH (tX7_is l D cA z0 Z M v2 (0 : Int32) (1000 : Int32) r_4 hw_5) mw_X7_is mi_X7_is kM_X7_105 hcc rfl rfl rfl hl.1 rfl rfl (Nat.le_of_ble_eq_true rfl) ⟨Nat.le_trans (by decide) hR.1, Nat.le_trans (by decide) hR.2⟩ dX7_miss_13 (fun H locs hH => ?_)
    refine lv_if_ne (tgt := 21) hx hb dX7_miss_16 (by decide) (fun cc_15 => ?_) (fun cc_15 => ?_)
    · replace hf := q_ifF cc_15 hf
      clear cc_15
      refine lv_aload_n hx hb dX7_miss_21 rfl (lv_at hl 0 rfl) ?_
      refine q_getR E hH (ci := 7) rfl 7 (by decide) kF_X7_32 (fun _ _ _ => rfl) hk_1 dX7_miss_22 ?_
      obtain ⟨a_6, he_7, hf⟩ := q_biE hf
      rw [he_7]
      refine lv_iconst (v := 5) hx hb dX7_miss_25 (by decide) ?_
      refine lv_iload_n hx hb dX7_miss_26 rfl (lv_at hl 1 rfl) ?_
      refine lv_imul hx hb dX7_miss_27 ?_
      refine lv_iconst (v := 4) hx hb dX7_miss_28 (by decide) ?_
      refine lv_iadd hx hb dX7_miss_29 ?_
      obtain ⟨hz_8, hf⟩ := q_gdE hf
      refine q_iaload E hH hz_8 dX7_miss_30 ?_
      refine lv_topi (fun v3_9 hn_10 => ?_)
      replace hf := q_nmE hn_10 hf
      clear hn_10
      refine lv_istore_n (lv' := [(3, .int v3_9), (0, .ref h), (1, .int v1), (2, .int v2)]) hx hb dX7_miss_31 rfl hl (by decide) rfl (fun ls hl => ?_)
      refine lv_aload_n hx hb dX7_miss_32 rfl (lv_at hl 1 rfl) ?_
      refine q_getR E hH (ci := 7) rfl 7 (by decide) kF_X7_32 (fun _ _ _ => rfl) hk_1 dX7_miss_33 ?_
      obtain ⟨a_11, he_12, hf⟩ := q_biE hf
      rw [he_12]
      refine lv_iconst (v := 5) hx hb dX7_miss_36 (by decide) ?_
      refine lv_iload_n hx hb dX7_miss_37 rfl (lv_at hl 2 rfl) ?_
      refine lv_imul hx hb dX7_miss_38 ?_
      refine lv_iconst (v := 4) hx hb dX7_miss_39 (by decide) ?_
      refine lv_iadd hx hb dX7_miss_40 ?_
      refine lv_iload_n hx hb dX7_miss_41 rfl (lv_at hl 3 rfl) ?_
      obtain ⟨hz_13, hf⟩ := q_gdE hf
      refine q_iastore E hH hz_13 dX7_miss_42 hf (fun M_14 H locs hH hf => ?_)
      refine lv_iload_n hx hb dX7_miss_43 rfl (lv_at hl 0 rfl) ?_
      cases hf
      exact q_iret E hH dX7_miss_44
    · replace hf := q_ifT cc_15 hf
      clear cc_15
      exact bX7_miss_19 E hR hcc h Z M _ _ _ _ _ hf hH (lv_sub hl [] rfl)
set_option maxRecDepth 100000 in
theorem tX7_miss (l : Launch) (D : va_G) (cA : Nat → ClassId) (z0 : Nat) (h : Nat) (v1 : Int32) (v2 : Int32) (Z : q_Z) (M : q_C) (r : Int32) (M' : q_C) (hf : fX7_miss h v1 v2 Z M = some (r, M')) : q_Ct l D cA z0 yX7_miss cX7_miss 4 (some .int) 1 22 [.ref h, .int v1, .int v2] Z M (some (.int r)) Z M' 0 0 := by
  (refine q_start (plainFor_of_name (by decide)) (Nat.le_of_ble_eq_true rfl) (fun p e s m below meth c H ls E hH hl => ?_); exact bX7_miss_0 E ⟨Nat.le_refl _, Nat.le_refl _⟩ ⟨Nat.le_refl _, Nat.le_refl _⟩ h _ _ Z M H [] ls r M' hf hH hl)
def fX7_unsee_b51 (h : Nat) (Z : q_Z) (M : q_C) : Option (Int32 × q_C) :=
  q_gd (zK Z h == 17) <|
  some ((gI M h 6), M)
set_option maxHeartbeats 4000000 in
set_option maxRecDepth 100000 in
theorem bX7_unsee_51 {cells slots : Nat} (E : q_E p s m meth c cX7_unsee 1 RX7 (some .int) "unsee" D cA) (hR : 0 ≤ R.frames ∧ 0 ≤ R.locals) (hcc : cells ≤ R.cells ∧ slots ≤ R.slots) (h : Nat) (Z : q_Z) (M : q_C) (H : Heap) (locs : List Loc) (ls : Array Slot) (r : Int32) (M' : q_C) (hf : fX7_unsee_b51 h Z M = some (r, M')) (hH : q_Hh D cA z0 s Z M H locs) (hl : lv_has ls 1 [(0, .ref h)])  : W p l e R s m args below meth c H locs cells slots (MQ below (q_Q D cA z0 (some (.int r)) Z M') args s cells slots (fun q => z0 ≤ q)) (F0 m 51 ls []) := by
  have hx := E.1
  have hb := E.2.1
  have hown := E.2.2.2.1
  have hT := E.2.2.2.2.2.2.2.1
  unfold fX7_unsee_b51 at hf
  refine lv_aload_n hx hb dX7_unsee_51 rfl (lv_at hl 0 rfl) ?_
  obtain ⟨hk_6, hf⟩ := q_gdE hf
  have hk_6 := q_keq hk_6
  refine q_getI E hH (ci := 7) rfl 6 (by decide) kF_X7_28 (fun _ _ _ => rfl) hk_6 dX7_unsee_52 ?_
  cases hf
  exact q_iret E hH dX7_unsee_55
def fX7_unsee_b41 (h : Nat) (Z : q_Z) (M : q_C) : Option (Int32 × q_C) :=
  q_gd (zK Z h == 17) <|
  q_nm (sI M h 11 (-1 : Int32)) fun M_4 =>
  q_nm (sI M_4 h 12 (-1 : Int32)) fun M_5 =>
  fX7_unsee_b51 h Z M_5
set_option maxHeartbeats 4000000 in
set_option maxRecDepth 100000 in
theorem bX7_unsee_41 {cells slots : Nat} (E : q_E p s m meth c cX7_unsee 1 RX7 (some .int) "unsee" D cA) (hR : 0 ≤ R.frames ∧ 0 ≤ R.locals) (hcc : cells ≤ R.cells ∧ slots ≤ R.slots) (h : Nat) (Z : q_Z) (M : q_C) (H : Heap) (locs : List Loc) (ls : Array Slot) (r : Int32) (M' : q_C) (hf : fX7_unsee_b41 h Z M = some (r, M')) (hH : q_Hh D cA z0 s Z M H locs) (hl : lv_has ls 1 [(0, .ref h)])  : W p l e R s m args below meth c H locs cells slots (MQ below (q_Q D cA z0 (some (.int r)) Z M') args s cells slots (fun q => z0 ≤ q)) (F0 m 41 ls []) := by
  have hx := E.1
  have hb := E.2.1
  have hown := E.2.2.2.1
  have hT := E.2.2.2.2.2.2.2.1
  unfold fX7_unsee_b41 at hf
  refine lv_aload_n hx hb dX7_unsee_41 rfl (lv_at hl 0 rfl) ?_
  refine lv_iconst (v := -1) hx hb dX7_unsee_42 (by decide) ?_
  obtain ⟨hk_3, hf⟩ := q_gdE hf
  have hk_3 := q_keq hk_3
  refine q_putI E hH (ci := 7) rfl 11 (by decide) kF_X7_44 rfl (fun _ _ _ => rfl) (x := (-1 : Int32)) hk_3 rfl rfl dX7_unsee_43 hf (fun M_4 H locs hH hf => ?_)
  refine lv_aload_n hx hb dX7_unsee_46 rfl (lv_at hl 0 rfl) ?_
  refine lv_iconst (v := -1) hx hb dX7_unsee_47 (by decide) ?_
  refine q_putI E hH (ci := 7) rfl 12 (by decide) kF_X7_47 rfl (fun _ _ _ => rfl) (x := (-1 : Int32)) hk_3 rfl rfl dX7_unsee_48 hf (fun M_5 H locs hH hf => ?_)
  exact bX7_unsee_51 E hR hcc h Z M_5 _ _ _ _ _ hf hH (lv_sub hl [0] rfl)
def fX7_unsee (h : Nat) (Z : q_Z) (M : q_C) : Option (Int32 × q_C) :=
  q_gd (zK Z h == 17) <|
  if gI M h 6 = 0 then
    some ((-1 : Int32), M)
  else
    q_nm (sI M h 6 ((gI M h 6) - (1 : Int32))) fun M_2 =>
    if gI M_2 h 11 = gI M_2 h 6 then
      fX7_unsee_b41 h Z M_2
    else
      if gI M_2 h 12 = gI M_2 h 6 then
        fX7_unsee_b41 h Z M_2
      else
        fX7_unsee_b51 h Z M_2
set_option maxHeartbeats 4000000 in
set_option maxRecDepth 100000 in
theorem bX7_unsee_0 {cells slots : Nat} (E : q_E p s m meth c cX7_unsee 1 RX7 (some .int) "unsee" D cA) (hR : 0 ≤ R.frames ∧ 0 ≤ R.locals) (hcc : cells ≤ R.cells ∧ slots ≤ R.slots) (h : Nat) (Z : q_Z) (M : q_C) (H : Heap) (locs : List Loc) (ls : Array Slot) (r : Int32) (M' : q_C) (hf : fX7_unsee h Z M = some (r, M')) (hH : q_Hh D cA z0 s Z M H locs) (hl : lv_has ls 1 [(0, .ref h)])  : W p l e R s m args below meth c H locs cells slots (MQ below (q_Q D cA z0 (some (.int r)) Z M') args s cells slots (fun q => z0 ≤ q)) (F0 m 0 ls []) := by
  have hx := E.1
  have hb := E.2.1
  have hown := E.2.2.2.1
  have hT := E.2.2.2.2.2.2.2.1
  unfold fX7_unsee at hf
  refine lv_aload_n hx hb dX7_unsee_0 rfl (lv_at hl 0 rfl) ?_
  obtain ⟨hk_1, hf⟩ := q_gdE hf
  have hk_1 := q_keq hk_1
  refine q_getI E hH (ci := 7) rfl 6 (by decide) kF_X7_28 (fun _ _ _ => rfl) hk_1 dX7_unsee_1 ?_
  refine lv_if_ne (tgt := 9) hx hb dX7_unsee_4 (by decide) (fun cc_9 => ?_) (fun cc_9 => ?_)
  · replace hf := q_ifF cc_9 hf
    clear cc_9
    refine lv_aload_n hx hb dX7_unsee_9 rfl (lv_at hl 0 rfl) ?_
    refine lv_dup hx hb dX7_unsee_10 rfl ?_
    refine q_getI E hH (ci := 7) rfl 6 (by decide) kF_X7_28 (fun _ _ _ => rfl) hk_1 dX7_unsee_11 ?_
    refine lv_iconst (v := 1) hx hb dX7_unsee_14 (by decide) ?_
    refine lv_isub hx hb dX7_unsee_15 ?_
    refine q_putI E hH (ci := 7) rfl 6 (by decide) kF_X7_28 rfl (fun _ _ _ => rfl) (x := (gI M h 6) - (1 : Int32)) hk_1 rfl rfl dX7_unsee_16 hf (fun M_2 H locs hH hf => ?_)
    refine lv_aload_n hx hb dX7_unsee_19 rfl (lv_at hl 0 rfl) ?_
    refine q_getI E hH (ci := 7) rfl 11 (by decide) kF_X7_44 (fun _ _ _ => rfl) hk_1 dX7_unsee_20 ?_
    refine lv_aload_n hx hb dX7_unsee_23 rfl (lv_at hl 0 rfl) ?_
    refine q_getI E hH (ci := 7) rfl 6 (by decide) kF_X7_28 (fun _ _ _ => rfl) hk_1 dX7_unsee_24 ?_
    refine lv_icmp_eq (tgt := 41) hx hb dX7_unsee_27 (by decide) (fun cc_8 => ?_) (fun cc_8 => ?_)
    · replace hf := q_ifT cc_8 hf
      clear cc_8
      exact bX7_unsee_41 E hR hcc h Z M_2 _ _ _ _ _ hf hH (lv_sub hl [0] rfl)
    · replace hf := q_ifF cc_8 hf
      clear cc_8
      refine lv_aload_n hx hb dX7_unsee_30 rfl (lv_at hl 0 rfl) ?_
      refine q_getI E hH (ci := 7) rfl 12 (by decide) kF_X7_47 (fun _ _ _ => rfl) hk_1 dX7_unsee_31 ?_
      refine lv_aload_n hx hb dX7_unsee_34 rfl (lv_at hl 0 rfl) ?_
      refine q_getI E hH (ci := 7) rfl 6 (by decide) kF_X7_28 (fun _ _ _ => rfl) hk_1 dX7_unsee_35 ?_
      refine lv_icmp_ne (tgt := 51) hx hb dX7_unsee_38 (by decide) (fun cc_7 => ?_) (fun cc_7 => ?_)
      · replace hf := q_ifF cc_7 hf
        clear cc_7
        exact bX7_unsee_51 E hR hcc h Z M_2 _ _ _ _ _ hf hH (lv_sub hl [0] rfl)
      · replace hf := q_ifT cc_7 hf
        clear cc_7
        exact bX7_unsee_41 E hR hcc h Z M_2 _ _ _ _ _ hf hH (lv_sub hl [0] rfl)
  · replace hf := q_ifT cc_9 hf
    clear cc_9
    refine lv_iconst (v := -1) hx hb dX7_unsee_7 (by decide) ?_
    cases hf
    exact q_iret E hH dX7_unsee_8
set_option maxRecDepth 100000 in
theorem tX7_unsee (l : Launch) (D : va_G) (cA : Nat → ClassId) (z0 : Nat) (h : Nat) (Z : q_Z) (M : q_C) (r : Int32) (M' : q_C) (hf : fX7_unsee h Z M = some (r, M')) : q_Ct l D cA z0 yX7_unsee cX7_unsee 1 (some .int) 0 0 [.ref h] Z M (some (.int r)) Z M' 0 0 := by
  (refine q_start (plainFor_of_name (by decide)) (Nat.le_of_ble_eq_true rfl) (fun p e s m below meth c H ls E hH hl => ?_); exact bX7_unsee_0 E ⟨Nat.le_refl _, Nat.le_refl _⟩ ⟨Nat.le_refl _, Nat.le_refl _⟩ h Z M H [] ls r M' hf hH hl)
def fX7_grid_b32 (h : Nat) (Z : q_Z) (M : q_C) : Option (Int32 × q_C) :=
  q_gd (decide ((0 : Int32) = 0) || decide ((0 : Int32) = 1)) <|
  some ((0 : Int32), M)
set_option maxHeartbeats 4000000 in
set_option maxRecDepth 100000 in
theorem bX7_grid_32 {cells slots : Nat} (E : q_E p s m meth c cX7_grid 4 RX7 (some .boolean) "grid" D cA) (hR : 1 ≤ R.frames ∧ 22 ≤ R.locals) (hcc : cells ≤ R.cells ∧ slots ≤ R.slots) (h : Nat) (Z : q_Z) (M : q_C) (H : Heap) (locs : List Loc) (ls : Array Slot) (r : Int32) (M' : q_C) (hf : fX7_grid_b32 h Z M = some (r, M')) (hH : q_Hh D cA z0 s Z M H locs) (hl : lv_has ls 4 [])  : W p l e R s m args below meth c H locs cells slots (MQ below (q_Q D cA z0 (some (.int r)) Z M') args s cells slots (fun q => z0 ≤ q)) (F0 m 32 ls []) := by
  have hx := E.1
  have hb := E.2.1
  have hown := E.2.2.2.1
  have hT := E.2.2.2.2.2.2.2.1
  unfold fX7_grid_b32 at hf
  refine lv_iconst (v := 0) hx hb dX7_grid_32 (by decide) ?_
  obtain ⟨hz_3, hf⟩ := q_gdE hf
  cases hf
  exact q_zret E hH hz_3 dX7_grid_33
def fX7_grid (h : Nat) (v1 : Int32) (v2 : Int32) (v3 : Int32) (Z : q_Z) (M : q_C) : Option (Int32 × q_C) :=
  Option.bind (fX7_is v1 (1 : Int32) (20000 : Int32)) fun r_1 =>
  if r_1 = 0 then
    fX7_grid_b32 h Z M
  else
    Option.bind (fX7_is v2 (1 : Int32) (2000 : Int32)) fun r_4 =>
    if r_4 = 0 then
      fX7_grid_b32 h Z M
    else
      Option.bind (fX7_is v3 (1 : Int32) (10 : Int32)) fun r_6 =>
      if r_6 = 0 then
        fX7_grid_b32 h Z M
      else
        q_gd (zK Z h == 17) <|
        q_nm (sI M h 8 v1) fun M_9 =>
        q_nm (sI M_9 h 9 v2) fun M_10 =>
        q_nm (sI M_10 h 10 v3) fun M_11 =>
        q_gd (decide ((1 : Int32) = 0) || decide ((1 : Int32) = 1)) <|
        some ((1 : Int32), M_11)
set_option maxHeartbeats 4000000 in
set_option maxRecDepth 100000 in
theorem bX7_grid_0 {cells slots : Nat} (E : q_E p s m meth c cX7_grid 4 RX7 (some .boolean) "grid" D cA) (hR : 1 ≤ R.frames ∧ 22 ≤ R.locals) (hcc : cells ≤ R.cells ∧ slots ≤ R.slots) (h : Nat) (v1 : Int32) (v2 : Int32) (v3 : Int32) (Z : q_Z) (M : q_C) (H : Heap) (locs : List Loc) (ls : Array Slot) (r : Int32) (M' : q_C) (hf : fX7_grid h v1 v2 v3 Z M = some (r, M')) (hH : q_Hh D cA z0 s Z M H locs) (hl : lv_has ls 4 [(0, .ref h), (1, .int v1), (2, .int v2), (3, .int v3)])  : W p l e R s m args below meth c H locs cells slots (MQ below (q_Q D cA z0 (some (.int r)) Z M') args s cells slots (fun q => z0 ≤ q)) (F0 m 0 ls []) := by
  have hx := E.1
  have hb := E.2.1
  have hown := E.2.2.2.1
  have hT := E.2.2.2.2.2.2.2.1
  unfold fX7_grid at hf
  refine lv_iload_n hx hb dX7_grid_0 rfl (lv_at hl 1 rfl) ?_
  refine lv_iconst (v := 1) hx hb dX7_grid_1 (by decide) ?_
  refine lv_sipush (v := 20000) hx hb dX7_grid_2 (by decide) ?_
  obtain ⟨r_1, hw_2, hf⟩ := q_biE hf
  refine q_cS (As := [.int v1, .int (1 : Int32), .int (20000 : Int32)]) (rest := []) (st1 := [.int r_1]) E hH (tX7_is l D cA z0 Z M v1 (1 : Int32) (20000 : Int32) r_1 hw_2) mw_X7_is mi_X7_is kM_X7_105 hcc rfl rfl rfl hl.1 rfl rfl (Nat.le_of_ble_eq_true rfl) ⟨Nat.le_trans (by decide) hR.1, Nat.le_trans (by decide) hR.2⟩ dX7_grid_5 (fun H locs hH => ?_)
  refine lv_if_eq (tgt := 32) hx hb dX7_grid_8 (by decide) (fun cc_15 => ?_) (fun cc_15 => ?_)
  · replace hf := q_ifT cc_15 hf
    clear cc_15
    exact bX7_grid_32 E hR hcc h Z M _ _ _ _ _ hf hH (lv_sub hl [] rfl)
  · replace hf := q_ifF cc_15 hf
    clear cc_15
    refine lv_iload_n hx hb dX7_grid_11 rfl (lv_at hl 2 rfl) ?_
    refine lv_iconst (v := 1) hx hb dX7_grid_12 (by decide) ?_
    refine lv_sipush (v := 2000) hx hb dX7_grid_13 (by decide) ?_
    obtain ⟨r_4, hw_5, hf⟩ := q_biE hf
    refine q_cS (As := [.int v2, .int (1 : Int32), .int (2000 : Int32)]) (rest := []) (st1 := [.int r_4]) E hH (tX7_is l D cA z0 Z M v2 (1 : Int32) (2000 : Int32) r_4 hw_5) mw_X7_is mi_X7_is kM_X7_105 hcc rfl rfl rfl hl.1 rfl rfl (Nat.le_of_ble_eq_true rfl) ⟨Nat.le_trans (by decide) hR.1, Nat.le_trans (by decide) hR.2⟩ dX7_grid_16 (fun H locs hH => ?_)
    refine lv_if_eq (tgt := 32) hx hb dX7_grid_19 (by decide) (fun cc_14 => ?_) (fun cc_14 => ?_)
    · replace hf := q_ifT cc_14 hf
      clear cc_14
      exact bX7_grid_32 E hR hcc h Z M _ _ _ _ _ hf hH (lv_sub hl [] rfl)
    · replace hf := q_ifF cc_14 hf
      clear cc_14
      refine lv_iload_n hx hb dX7_grid_22 rfl (lv_at hl 3 rfl) ?_
      refine lv_iconst (v := 1) hx hb dX7_grid_23 (by decide) ?_
      refine lv_bipush (v := 10) hx hb dX7_grid_24 (by decide) ?_
      obtain ⟨r_6, hw_7, hf⟩ := q_biE hf
      refine q_cS (As := [.int v3, .int (1 : Int32), .int (10 : Int32)]) (rest := []) (st1 := [.int r_6]) E hH (tX7_is l D cA z0 Z M v3 (1 : Int32) (10 : Int32) r_6 hw_7) mw_X7_is mi_X7_is kM_X7_105 hcc rfl rfl rfl hl.1 rfl rfl (Nat.le_of_ble_eq_true rfl) ⟨Nat.le_trans (by decide) hR.1, Nat.le_trans (by decide) hR.2⟩ dX7_grid_26 (fun H locs hH => ?_)
      refine lv_if_ne (tgt := 34) hx hb dX7_grid_29 (by decide) (fun cc_13 => ?_) (fun cc_13 => ?_)
      · replace hf := q_ifF cc_13 hf
        clear cc_13
        refine lv_aload_n hx hb dX7_grid_34 rfl (lv_at hl 0 rfl) ?_
        refine lv_iload_n hx hb dX7_grid_35 rfl (lv_at hl 1 rfl) ?_
        obtain ⟨hk_8, hf⟩ := q_gdE hf
        have hk_8 := q_keq hk_8
        refine q_putI E hH (ci := 7) rfl 8 (by decide) kF_X7_35 rfl (fun _ _ _ => rfl) (x := v1) hk_8 rfl rfl dX7_grid_36 hf (fun M_9 H locs hH hf => ?_)
        refine lv_aload_n hx hb dX7_grid_39 rfl (lv_at hl 0 rfl) ?_
        refine lv_iload_n hx hb dX7_grid_40 rfl (lv_at hl 2 rfl) ?_
        refine q_putI E hH (ci := 7) rfl 9 (by decide) kF_X7_38 rfl (fun _ _ _ => rfl) (x := v2) hk_8 rfl rfl dX7_grid_41 hf (fun M_10 H locs hH hf => ?_)
        refine lv_aload_n hx hb dX7_grid_44 rfl (lv_at hl 0 rfl) ?_
        refine lv_iload_n hx hb dX7_grid_45 rfl (lv_at hl 3 rfl) ?_
        refine q_putI E hH (ci := 7) rfl 10 (by decide) kF_X7_41 rfl (fun _ _ _ => rfl) (x := v3) hk_8 rfl rfl dX7_grid_46 hf (fun M_11 H locs hH hf => ?_)
        refine lv_iconst (v := 1) hx hb dX7_grid_49 (by decide) ?_
        obtain ⟨hz_12, hf⟩ := q_gdE hf
        cases hf
        exact q_zret E hH hz_12 dX7_grid_50
      · replace hf := q_ifT cc_13 hf
        clear cc_13
        exact bX7_grid_32 E hR hcc h Z M _ _ _ _ _ hf hH (lv_sub hl [] rfl)
set_option maxRecDepth 100000 in
theorem tX7_grid (l : Launch) (D : va_G) (cA : Nat → ClassId) (z0 : Nat) (h : Nat) (v1 : Int32) (v2 : Int32) (v3 : Int32) (Z : q_Z) (M : q_C) (r : Int32) (M' : q_C) (hf : fX7_grid h v1 v2 v3 Z M = some (r, M')) : q_Ct l D cA z0 yX7_grid cX7_grid 4 (some .boolean) 1 22 [.ref h, .int v1, .int v2, .int v3] Z M (some (.int r)) Z M' 0 0 := by
  (refine q_start (plainFor_of_name (by decide)) (Nat.le_of_ble_eq_true rfl) (fun p e s m below meth c H ls E hH hl => ?_); exact bX7_grid_0 E ⟨Nat.le_refl _, Nat.le_refl _⟩ ⟨Nat.le_refl _, Nat.le_refl _⟩ h _ _ _ Z M H [] ls r M' hf hH hl)
def fX7_base_b61 (h : Nat) (Z : q_Z) (M : q_C) : Option (Int32 × q_C) :=
  q_gd (decide ((0 : Int32) = 0) || decide ((0 : Int32) = 1)) <|
  some ((0 : Int32), M)
set_option maxHeartbeats 4000000 in
set_option maxRecDepth 100000 in
theorem bX7_base_61 {cells slots : Nat} (E : q_E p s m meth c cX7_base 3 RX7 (some .boolean) "base" D cA) (hR : 1 ≤ R.frames ∧ 21 ≤ R.locals) (hcc : cells ≤ R.cells ∧ slots ≤ R.slots) (h : Nat) (Z : q_Z) (M : q_C) (H : Heap) (locs : List Loc) (ls : Array Slot) (r : Int32) (M' : q_C) (hf : fX7_base_b61 h Z M = some (r, M')) (hH : q_Hh D cA z0 s Z M H locs) (hl : lv_has ls 3 [])  : W p l e R s m args below meth c H locs cells slots (MQ below (q_Q D cA z0 (some (.int r)) Z M') args s cells slots (fun q => z0 ≤ q)) (F0 m 61 ls []) := by
  have hx := E.1
  have hb := E.2.1
  have hown := E.2.2.2.1
  have hT := E.2.2.2.2.2.2.2.1
  unfold fX7_base_b61 at hf
  refine lv_iconst (v := 0) hx hb dX7_base_61 (by decide) ?_
  obtain ⟨hz_4, hf⟩ := q_gdE hf
  cases hf
  exact q_zret E hH hz_4 dX7_base_62
def fX7_base_b109 (h : Nat) (s0 : Int32) (s1 : Option Nat) (Z : q_Z) (M : q_C) : Option (Int32 × q_C) :=
  Option.bind s1 fun a_30 =>
  q_gd (zK Z a_30 == 17) <|
  q_nm (sI M a_30 12 s0) fun M_33 =>
  q_gd (decide ((1 : Int32) = 0) || decide ((1 : Int32) = 1)) <|
  some ((1 : Int32), M_33)
set_option maxHeartbeats 4000000 in
set_option maxRecDepth 100000 in
theorem bX7_base_109 {cells slots : Nat} (E : q_E p s m meth c cX7_base 3 RX7 (some .boolean) "base" D cA) (hR : 1 ≤ R.frames ∧ 21 ≤ R.locals) (hcc : cells ≤ R.cells ∧ slots ≤ R.slots) (h : Nat) (s0 : Int32) (s1 : Option Nat) (Z : q_Z) (M : q_C) (H : Heap) (locs : List Loc) (ls : Array Slot) (r : Int32) (M' : q_C) (hf : fX7_base_b109 h s0 s1 Z M = some (r, M')) (hH : q_Hh D cA z0 s Z M H locs) (hl : lv_has ls 3 [])  : W p l e R s m args below meth c H locs cells slots (MQ below (q_Q D cA z0 (some (.int r)) Z M') args s cells slots (fun q => z0 ≤ q)) (F0 m 109 ls [.int s0, va_rf s1]) := by
  have hx := E.1
  have hb := E.2.1
  have hown := E.2.2.2.1
  have hT := E.2.2.2.2.2.2.2.1
  unfold fX7_base_b109 at hf
  obtain ⟨a_30, he_31, hf⟩ := q_biE hf
  subst he_31
  obtain ⟨hk_32, hf⟩ := q_gdE hf
  have hk_32 := q_keq hk_32
  refine q_putI E hH (ci := 7) rfl 12 (by decide) kF_X7_47 rfl (fun _ _ _ => rfl) (x := s0) hk_32 rfl rfl dX7_base_109 hf (fun M_33 H locs hH hf => ?_)
  refine lv_iconst (v := 1) hx hb dX7_base_112 (by decide) ?_
  obtain ⟨hz_34, hf⟩ := q_gdE hf
  cases hf
  exact q_zret E hH hz_34 dX7_base_113
def fX7_base_b92 (h : Nat) (v1 : Int32) (v2 : Int32) (s0 : Int32) (s1 : Option Nat) (Z : q_Z) (M : q_C) : Option (Int32 × q_C) :=
  Option.bind s1 fun a_25 =>
  q_gd (zK Z a_25 == 17) <|
  q_nm (sI M a_25 11 s0) fun M_28 =>
  q_gd (zK Z h == 17) <|
  if gI M_28 h 11 = v1 then
    fX7_base_b109 h v2 (some h) Z M_28
  else
    fX7_base_b109 h v1 (some h) Z M_28
set_option maxHeartbeats 4000000 in
set_option maxRecDepth 100000 in
theorem bX7_base_92 {cells slots : Nat} (E : q_E p s m meth c cX7_base 3 RX7 (some .boolean) "base" D cA) (hR : 1 ≤ R.frames ∧ 21 ≤ R.locals) (hcc : cells ≤ R.cells ∧ slots ≤ R.slots) (h : Nat) (v1 : Int32) (v2 : Int32) (s0 : Int32) (s1 : Option Nat) (Z : q_Z) (M : q_C) (H : Heap) (locs : List Loc) (ls : Array Slot) (r : Int32) (M' : q_C) (hf : fX7_base_b92 h v1 v2 s0 s1 Z M = some (r, M')) (hH : q_Hh D cA z0 s Z M H locs) (hl : lv_has ls 3 [(0, .ref h), (1, .int v1), (2, .int v2)])  : W p l e R s m args below meth c H locs cells slots (MQ below (q_Q D cA z0 (some (.int r)) Z M') args s cells slots (fun q => z0 ≤ q)) (F0 m 92 ls [.int s0, va_rf s1]) := by
  have hx := E.1
  have hb := E.2.1
  have hown := E.2.2.2.1
  have hT := E.2.2.2.2.2.2.2.1
  unfold fX7_base_b92 at hf
  obtain ⟨a_25, he_26, hf⟩ := q_biE hf
  subst he_26
  obtain ⟨hk_27, hf⟩ := q_gdE hf
  have hk_27 := q_keq hk_27
  refine q_putI E hH (ci := 7) rfl 11 (by decide) kF_X7_44 rfl (fun _ _ _ => rfl) (x := s0) hk_27 rfl rfl dX7_base_92 hf (fun M_28 H locs hH hf => ?_)
  refine lv_aload_n hx hb dX7_base_95 rfl (lv_at hl 0 rfl) ?_
  refine lv_aload_n hx hb dX7_base_96 rfl (lv_at hl 0 rfl) ?_
  obtain ⟨hk_29, hf⟩ := q_gdE hf
  have hk_29 := q_keq hk_29
  refine q_getI E hH (ci := 7) rfl 11 (by decide) kF_X7_44 (fun _ _ _ => rfl) hk_29 dX7_base_97 ?_
  refine lv_iload_n hx hb dX7_base_100 rfl (lv_at hl 1 rfl) ?_
  refine lv_icmp_ne (tgt := 108) hx hb dX7_base_101 (by decide) (fun cc_35 => ?_) (fun cc_35 => ?_)
  · replace hf := q_ifF cc_35 hf
    clear cc_35
    refine lv_iload_n hx hb dX7_base_108 rfl (lv_at hl 1 rfl) ?_
    exact bX7_base_109 E hR hcc h v1 (some h) Z M_28 _ _ _ _ _ hf hH (lv_sub hl [] rfl)
  · replace hf := q_ifT cc_35 hf
    clear cc_35
    refine lv_iload_n hx hb dX7_base_104 rfl (lv_at hl 2 rfl) ?_
    refine lv_goto (tgt := 109) hx hb dX7_base_105 (by decide) ?_
    exact bX7_base_109 E hR hcc h v2 (some h) Z M_28 _ _ _ _ _ hf hH (lv_sub hl [] rfl)
def fX7_base (h : Nat) (v1 : Int32) (v2 : Int32) (Z : q_Z) (M : q_C) : Option (Int32 × q_C) :=
  q_gd (zK Z h == 17) <|
  Option.bind (fX7_isSight h v1 Z M) fun r_2 =>
  if r_2 = 0 then
    fX7_base_b61 h Z M
  else
    Option.bind (fX7_isSight h v2 Z M) fun r_5 =>
    if r_5 = 0 then
      fX7_base_b61 h Z M
    else
      Option.bind (gR M h 7) fun a_7 =>
      q_gd (q_ok Z a_7 1 ((5 : Int32) * v1)) <|
      if gI M a_7 ((5 : Int32) * v1).toNatClampNeg = 0 then
        Option.bind (gR M h 7) fun a_10 =>
        q_gd (q_ok Z a_10 1 ((5 : Int32) * v2)) <|
        if gI M a_10 ((5 : Int32) * v2).toNatClampNeg = 0 then
          Option.bind (gR M h 7) fun a_13 =>
          q_gd (q_ok Z a_13 1 (((5 : Int32) * v1) + (1 : Int32))) <|
          Option.bind (gR M h 7) fun a_16 =>
          q_gd (q_ok Z a_16 1 (((5 : Int32) * v2) + (1 : Int32))) <|
          if gI M a_13 (((5 : Int32) * v1) + (1 : Int32)).toNatClampNeg = gI M a_16 (((5 : Int32) * v2) + (1 : Int32)).toNatClampNeg then
            fX7_base_b61 h Z M
          else
            Option.bind (gR M h 7) fun a_19 =>
            q_gd (q_ok Z a_19 1 (((5 : Int32) * v1) + (1 : Int32))) <|
            Option.bind (gR M h 7) fun a_22 =>
            q_gd (q_ok Z a_22 1 (((5 : Int32) * v2) + (1 : Int32))) <|
            if gI M a_22 (((5 : Int32) * v2) + (1 : Int32)).toNatClampNeg ≤ gI M a_19 (((5 : Int32) * v1) + (1 : Int32)).toNatClampNeg then
              fX7_base_b92 h v1 v2 v2 (some h) Z M
            else
              fX7_base_b92 h v1 v2 v1 (some h) Z M
        else
          fX7_base_b61 h Z M
      else
        fX7_base_b61 h Z M
set_option maxHeartbeats 4000000 in
set_option maxRecDepth 100000 in
theorem bX7_base_0 {cells slots : Nat} (E : q_E p s m meth c cX7_base 3 RX7 (some .boolean) "base" D cA) (hR : 1 ≤ R.frames ∧ 21 ≤ R.locals) (hcc : cells ≤ R.cells ∧ slots ≤ R.slots) (h : Nat) (v1 : Int32) (v2 : Int32) (Z : q_Z) (M : q_C) (H : Heap) (locs : List Loc) (ls : Array Slot) (r : Int32) (M' : q_C) (hf : fX7_base h v1 v2 Z M = some (r, M')) (hH : q_Hh D cA z0 s Z M H locs) (hl : lv_has ls 3 [(0, .ref h), (1, .int v1), (2, .int v2)])  : W p l e R s m args below meth c H locs cells slots (MQ below (q_Q D cA z0 (some (.int r)) Z M') args s cells slots (fun q => z0 ≤ q)) (F0 m 0 ls []) := by
  have hx := E.1
  have hb := E.2.1
  have hown := E.2.2.2.1
  have hT := E.2.2.2.2.2.2.2.1
  unfold fX7_base at hf
  refine lv_aload_n hx hb dX7_base_0 rfl (lv_at hl 0 rfl) ?_
  refine lv_iload_n hx hb dX7_base_1 rfl (lv_at hl 1 rfl) ?_
  obtain ⟨hk_1, hf⟩ := q_gdE hf
  have hk_1 := q_keq hk_1
  obtain ⟨r_2, hw_3, hf⟩ := q_biE hf
  refine q_cV (As := [.int v1]) (rest := []) (st1 := [.int r_2]) E hH (tX7_isSight l D cA z0 h v1 Z M r_2 hw_3) mw_X7_isSight mi_X7_isSight (ci := 7) rfl ms_X7_isSight kM_X7_114 hk_1 hcc rfl rfl rfl hl.1 rfl rfl (Nat.le_of_ble_eq_true rfl) ⟨Nat.le_trans (by decide) hR.1, Nat.le_trans (by decide) hR.2⟩ dX7_base_2 (fun H locs hH => ?_)
  refine lv_if_eq (tgt := 61) hx hb dX7_base_5 (by decide) (fun cc_41 => ?_) (fun cc_41 => ?_)
  · replace hf := q_ifT cc_41 hf
    clear cc_41
    exact bX7_base_61 E hR hcc h Z M _ _ _ _ _ hf hH (lv_sub hl [] rfl)
  · replace hf := q_ifF cc_41 hf
    clear cc_41
    refine lv_aload_n hx hb dX7_base_8 rfl (lv_at hl 0 rfl) ?_
    refine lv_iload_n hx hb dX7_base_9 rfl (lv_at hl 2 rfl) ?_
    obtain ⟨r_5, hw_6, hf⟩ := q_biE hf
    refine q_cV (As := [.int v2]) (rest := []) (st1 := [.int r_5]) E hH (tX7_isSight l D cA z0 h v2 Z M r_5 hw_6) mw_X7_isSight mi_X7_isSight (ci := 7) rfl ms_X7_isSight kM_X7_114 hk_1 hcc rfl rfl rfl hl.1 rfl rfl (Nat.le_of_ble_eq_true rfl) ⟨Nat.le_trans (by decide) hR.1, Nat.le_trans (by decide) hR.2⟩ dX7_base_10 (fun H locs hH => ?_)
    refine lv_if_eq (tgt := 61) hx hb dX7_base_13 (by decide) (fun cc_40 => ?_) (fun cc_40 => ?_)
    · replace hf := q_ifT cc_40 hf
      clear cc_40
      exact bX7_base_61 E hR hcc h Z M _ _ _ _ _ hf hH (lv_sub hl [] rfl)
    · replace hf := q_ifF cc_40 hf
      clear cc_40
      refine lv_aload_n hx hb dX7_base_16 rfl (lv_at hl 0 rfl) ?_
      refine q_getR E hH (ci := 7) rfl 7 (by decide) kF_X7_32 (fun _ _ _ => rfl) hk_1 dX7_base_17 ?_
      obtain ⟨a_7, he_8, hf⟩ := q_biE hf
      rw [he_8]
      refine lv_iconst (v := 5) hx hb dX7_base_20 (by decide) ?_
      refine lv_iload_n hx hb dX7_base_21 rfl (lv_at hl 1 rfl) ?_
      refine lv_imul hx hb dX7_base_22 ?_
      obtain ⟨hz_9, hf⟩ := q_gdE hf
      refine q_iaload E hH hz_9 dX7_base_23 ?_
      refine lv_if_ne (tgt := 61) hx hb dX7_base_24 (by decide) (fun cc_39 => ?_) (fun cc_39 => ?_)
      · replace hf := q_ifF cc_39 hf
        clear cc_39
        exact bX7_base_61 E hR hcc h Z M _ _ _ _ _ hf hH (lv_sub hl [] rfl)
      · replace hf := q_ifT cc_39 hf
        clear cc_39
        refine lv_aload_n hx hb dX7_base_27 rfl (lv_at hl 0 rfl) ?_
        refine q_getR E hH (ci := 7) rfl 7 (by decide) kF_X7_32 (fun _ _ _ => rfl) hk_1 dX7_base_28 ?_
        obtain ⟨a_10, he_11, hf⟩ := q_biE hf
        rw [he_11]
        refine lv_iconst (v := 5) hx hb dX7_base_31 (by decide) ?_
        refine lv_iload_n hx hb dX7_base_32 rfl (lv_at hl 2 rfl) ?_
        refine lv_imul hx hb dX7_base_33 ?_
        obtain ⟨hz_12, hf⟩ := q_gdE hf
        refine q_iaload E hH hz_12 dX7_base_34 ?_
        refine lv_if_ne (tgt := 61) hx hb dX7_base_35 (by decide) (fun cc_38 => ?_) (fun cc_38 => ?_)
        · replace hf := q_ifF cc_38 hf
          clear cc_38
          exact bX7_base_61 E hR hcc h Z M _ _ _ _ _ hf hH (lv_sub hl [] rfl)
        · replace hf := q_ifT cc_38 hf
          clear cc_38
          refine lv_aload_n hx hb dX7_base_38 rfl (lv_at hl 0 rfl) ?_
          refine q_getR E hH (ci := 7) rfl 7 (by decide) kF_X7_32 (fun _ _ _ => rfl) hk_1 dX7_base_39 ?_
          obtain ⟨a_13, he_14, hf⟩ := q_biE hf
          rw [he_14]
          refine lv_iconst (v := 5) hx hb dX7_base_42 (by decide) ?_
          refine lv_iload_n hx hb dX7_base_43 rfl (lv_at hl 1 rfl) ?_
          refine lv_imul hx hb dX7_base_44 ?_
          refine lv_iconst (v := 1) hx hb dX7_base_45 (by decide) ?_
          refine lv_iadd hx hb dX7_base_46 ?_
          obtain ⟨hz_15, hf⟩ := q_gdE hf
          refine q_iaload E hH hz_15 dX7_base_47 ?_
          refine lv_aload_n hx hb dX7_base_48 rfl (lv_at hl 0 rfl) ?_
          refine q_getR E hH (ci := 7) rfl 7 (by decide) kF_X7_32 (fun _ _ _ => rfl) hk_1 dX7_base_49 ?_
          obtain ⟨a_16, he_17, hf⟩ := q_biE hf
          rw [he_17]
          refine lv_iconst (v := 5) hx hb dX7_base_52 (by decide) ?_
          refine lv_iload_n hx hb dX7_base_53 rfl (lv_at hl 2 rfl) ?_
          refine lv_imul hx hb dX7_base_54 ?_
          refine lv_iconst (v := 1) hx hb dX7_base_55 (by decide) ?_
          refine lv_iadd hx hb dX7_base_56 ?_
          obtain ⟨hz_18, hf⟩ := q_gdE hf
          refine q_iaload E hH hz_18 dX7_base_57 ?_
          refine lv_icmp_ne (tgt := 63) hx hb dX7_base_58 (by decide) (fun cc_37 => ?_) (fun cc_37 => ?_)
          · replace hf := q_ifF cc_37 hf
            clear cc_37
            refine lv_aload_n hx hb dX7_base_63 rfl (lv_at hl 0 rfl) ?_
            refine lv_aload_n hx hb dX7_base_64 rfl (lv_at hl 0 rfl) ?_
            refine q_getR E hH (ci := 7) rfl 7 (by decide) kF_X7_32 (fun _ _ _ => rfl) hk_1 dX7_base_65 ?_
            obtain ⟨a_19, he_20, hf⟩ := q_biE hf
            rw [he_20]
            refine lv_iconst (v := 5) hx hb dX7_base_68 (by decide) ?_
            refine lv_iload_n hx hb dX7_base_69 rfl (lv_at hl 1 rfl) ?_
            refine lv_imul hx hb dX7_base_70 ?_
            refine lv_iconst (v := 1) hx hb dX7_base_71 (by decide) ?_
            refine lv_iadd hx hb dX7_base_72 ?_
            obtain ⟨hz_21, hf⟩ := q_gdE hf
            refine q_iaload E hH hz_21 dX7_base_73 ?_
            refine lv_aload_n hx hb dX7_base_74 rfl (lv_at hl 0 rfl) ?_
            refine q_getR E hH (ci := 7) rfl 7 (by decide) kF_X7_32 (fun _ _ _ => rfl) hk_1 dX7_base_75 ?_
            obtain ⟨a_22, he_23, hf⟩ := q_biE hf
            rw [he_23]
            refine lv_iconst (v := 5) hx hb dX7_base_78 (by decide) ?_
            refine lv_iload_n hx hb dX7_base_79 rfl (lv_at hl 2 rfl) ?_
            refine lv_imul hx hb dX7_base_80 ?_
            refine lv_iconst (v := 1) hx hb dX7_base_81 (by decide) ?_
            refine lv_iadd hx hb dX7_base_82 ?_
            obtain ⟨hz_24, hf⟩ := q_gdE hf
            refine q_iaload E hH hz_24 dX7_base_83 ?_
            refine lv_icmp_ge (tgt := 91) hx hb dX7_base_84 (by decide) (fun cc_36 => ?_) (fun cc_36 => ?_)
            · replace hf := q_ifT cc_36 hf
              clear cc_36
              refine lv_iload_n hx hb dX7_base_91 rfl (lv_at hl 2 rfl) ?_
              exact bX7_base_92 E hR hcc h v1 v2 v2 (some h) Z M _ _ _ _ _ hf hH (lv_sub hl [0, 1, 2] rfl)
            · replace hf := q_ifF cc_36 hf
              clear cc_36
              refine lv_iload_n hx hb dX7_base_87 rfl (lv_at hl 1 rfl) ?_
              refine lv_goto (tgt := 92) hx hb dX7_base_88 (by decide) ?_
              exact bX7_base_92 E hR hcc h v1 v2 v1 (some h) Z M _ _ _ _ _ hf hH (lv_sub hl [0, 1, 2] rfl)
          · replace hf := q_ifT cc_37 hf
            clear cc_37
            exact bX7_base_61 E hR hcc h Z M _ _ _ _ _ hf hH (lv_sub hl [] rfl)
set_option maxRecDepth 100000 in
theorem tX7_base (l : Launch) (D : va_G) (cA : Nat → ClassId) (z0 : Nat) (h : Nat) (v1 : Int32) (v2 : Int32) (Z : q_Z) (M : q_C) (r : Int32) (M' : q_C) (hf : fX7_base h v1 v2 Z M = some (r, M')) : q_Ct l D cA z0 yX7_base cX7_base 3 (some .boolean) 1 21 [.ref h, .int v1, .int v2] Z M (some (.int r)) Z M' 0 0 := by
  (refine q_start (plainFor_of_name (by decide)) (Nat.le_of_ble_eq_true rfl) (fun p e s m below meth c H ls E hH hl => ?_); exact bX7_base_0 E ⟨Nat.le_refl _, Nat.le_refl _⟩ ⟨Nat.le_refl _, Nat.le_refl _⟩ h _ _ Z M H [] ls r M' hf hH hl)
def fX7_place_b31 (v0 : Option Nat) (v2 : Int32) (v4 : Int32) (s0 : Int32) (Z : q_Z) (M : q_C) : Option (Int32) :=
  Option.bind v0 fun a_8 =>
  q_gd (q_ok Z a_8 1 ((((80 : Int32) * v2) + ((2 : Int32) * s0)) + v4)) <|
  some (gI M a_8 ((((80 : Int32) * v2) + ((2 : Int32) * s0)) + v4).toNatClampNeg)
set_option maxHeartbeats 4000000 in
set_option maxRecDepth 100000 in
theorem bX7_place_31 {cells slots : Nat} (E : q_E p s m meth c cX7_place 6 RX7 (some .int) "place" D cA) (hR : 0 ≤ R.frames ∧ 0 ≤ R.locals) (hcc : cells ≤ R.cells ∧ slots ≤ R.slots) (v0 : Option Nat) (v2 : Int32) (v4 : Int32) (s0 : Int32) (Z : q_Z) (M : q_C) (H : Heap) (locs : List Loc) (ls : Array Slot) (r : Int32) (hf : fX7_place_b31 v0 v2 v4 s0 Z M = some r) (hH : q_Hh D cA z0 s Z M H locs) (hl : lv_has ls 6 [(0, va_rf v0), (2, .int v2), (4, .int v4)])  : W p l e R s m args below meth c H locs cells slots (MQ below (q_Q D cA z0 (some (.int r)) Z M) args s cells slots (fun q => z0 ≤ q)) (F0 m 31 ls [.int s0]) := by
  have hx := E.1
  have hb := E.2.1
  have hown := E.2.2.2.1
  have hT := E.2.2.2.2.2.2.2.1
  unfold fX7_place_b31 at hf
  refine lv_istore (lv' := [(5, .int s0), (0, va_rf v0), (2, .int v2), (4, .int v4)]) hx hb dX7_place_31 hl (by decide) rfl (fun ls hl => ?_)
  refine q_aload_n hx hb dX7_place_33 rfl (lv_at hl 1 rfl) ?_
  refine lv_bipush (v := 80) hx hb dX7_place_34 (by decide) ?_
  refine lv_iload_n hx hb dX7_place_36 rfl (lv_at hl 2 rfl) ?_
  refine lv_imul hx hb dX7_place_37 ?_
  refine lv_iconst (v := 2) hx hb dX7_place_38 (by decide) ?_
  refine lv_iload hx hb dX7_place_39 (lv_at hl 0 rfl) ?_
  refine lv_imul hx hb dX7_place_41 ?_
  refine lv_iadd hx hb dX7_place_42 ?_
  refine lv_iload hx hb dX7_place_43 (lv_at hl 3 rfl) ?_
  refine lv_iadd hx hb dX7_place_45 ?_
  obtain ⟨a_8, he_9, hf⟩ := q_biE hf
  subst he_9
  obtain ⟨hz_10, hf⟩ := q_gdE hf
  refine q_iaload E hH hz_10 dX7_place_46 ?_
  cases hf
  exact q_iret E hH dX7_place_47
def fX7_place (v0 : Option Nat) (v1 : Option Nat) (v2 : Int32) (v3 : Int32) (v4 : Int32) (Z : q_Z) (M : q_C) : Option (Int32) :=
  Option.bind v1 fun a_1 =>
  q_gd (q_ok Z a_1 1 v2) <|
  if gI M a_1 v2.toNatClampNeg = 0 then
    some (0 : Int32)
  else
    q_gd (q_ok Z a_1 1 v2) <|
    q_gd (!(decide (gI M a_1 v2.toNatClampNeg = 0))) <|
    q_nm (v3 - v3 / (gI M a_1 v2.toNatClampNeg) * (gI M a_1 v2.toNatClampNeg)) fun v5_6 =>
    if 0 ≤ v5_6 then
      fX7_place_b31 v0 v2 v4 v5_6 Z M
    else
      q_gd (q_ok Z a_1 1 v2) <|
      fX7_place_b31 v0 v2 v4 (v5_6 + (gI M a_1 v2.toNatClampNeg)) Z M
set_option maxHeartbeats 4000000 in
set_option maxRecDepth 100000 in
theorem bX7_place_0 {cells slots : Nat} (E : q_E p s m meth c cX7_place 6 RX7 (some .int) "place" D cA) (hR : 0 ≤ R.frames ∧ 0 ≤ R.locals) (hcc : cells ≤ R.cells ∧ slots ≤ R.slots) (v0 : Option Nat) (v1 : Option Nat) (v2 : Int32) (v3 : Int32) (v4 : Int32) (Z : q_Z) (M : q_C) (H : Heap) (locs : List Loc) (ls : Array Slot) (r : Int32) (hf : fX7_place v0 v1 v2 v3 v4 Z M = some r) (hH : q_Hh D cA z0 s Z M H locs) (hl : lv_has ls 6 [(0, va_rf v0), (1, va_rf v1), (2, .int v2), (3, .int v3), (4, .int v4)])  : W p l e R s m args below meth c H locs cells slots (MQ below (q_Q D cA z0 (some (.int r)) Z M) args s cells slots (fun q => z0 ≤ q)) (F0 m 0 ls []) := by
  have hx := E.1
  have hb := E.2.1
  have hown := E.2.2.2.1
  have hT := E.2.2.2.2.2.2.2.1
  unfold fX7_place at hf
  refine q_aload_n hx hb dX7_place_0 rfl (lv_at hl 1 rfl) ?_
  refine lv_iload_n hx hb dX7_place_1 rfl (lv_at hl 2 rfl) ?_
  obtain ⟨a_1, he_2, hf⟩ := q_biE hf
  subst he_2
  obtain ⟨hz_3, hf⟩ := q_gdE hf
  refine q_iaload E hH hz_3 dX7_place_2 ?_
  refine lv_if_ne (tgt := 8) hx hb dX7_place_3 (by decide) (fun cc_13 => ?_) (fun cc_13 => ?_)
  · replace hf := q_ifF cc_13 hf
    clear cc_13
    refine lv_iload_n hx hb dX7_place_8 rfl (lv_at hl 3 rfl) ?_
    refine lv_aload_n hx hb dX7_place_9 rfl (lv_at hl 1 rfl) ?_
    refine lv_iload_n hx hb dX7_place_10 rfl (lv_at hl 2 rfl) ?_
    obtain ⟨hz_4, hf⟩ := q_gdE hf
    refine q_iaload E hH hz_4 dX7_place_11 ?_
    obtain ⟨hz_5, hf⟩ := q_gdE hf
    refine lv_irem hx hb dX7_place_12 (by simpa using hz_5) ?_
    refine lv_topi (fun v5_6 hn_7 => ?_)
    replace hf := q_nmE hn_7 hf
    clear hn_7
    refine lv_istore (lv' := [(5, .int v5_6), (0, va_rf v0), (1, .ref a_1), (2, .int v2), (3, .int v3), (4, .int v4)]) hx hb dX7_place_13 hl (by decide) rfl (fun ls hl => ?_)
    refine lv_iload hx hb dX7_place_15 (lv_at hl 0 rfl) ?_
    refine lv_if_ge (tgt := 29) hx hb dX7_place_17 (by decide) (fun cc_12 => ?_) (fun cc_12 => ?_)
    · replace hf := q_ifT cc_12 hf
      clear cc_12
      refine lv_iload hx hb dX7_place_29 (lv_at hl 0 rfl) ?_
      exact bX7_place_31 E hR hcc v0 v2 v4 v5_6 Z M _ _ _ _ hf hH (lv_sub hl [1, 3, 5] rfl)
    · replace hf := q_ifF cc_12 hf
      clear cc_12
      refine lv_iload hx hb dX7_place_20 (lv_at hl 0 rfl) ?_
      refine lv_aload_n hx hb dX7_place_22 rfl (lv_at hl 2 rfl) ?_
      refine lv_iload_n hx hb dX7_place_23 rfl (lv_at hl 3 rfl) ?_
      obtain ⟨hz_11, hf⟩ := q_gdE hf
      refine q_iaload E hH hz_11 dX7_place_24 ?_
      refine lv_iadd hx hb dX7_place_25 ?_
      refine lv_goto (tgt := 31) hx hb dX7_place_26 (by decide) ?_
      exact bX7_place_31 E hR hcc v0 v2 v4 (v5_6 + (gI M a_1 v2.toNatClampNeg)) Z M _ _ _ _ hf hH (lv_sub hl [1, 3, 5] rfl)
  · replace hf := q_ifT cc_13 hf
    clear cc_13
    refine lv_iconst (v := 0) hx hb dX7_place_6 (by decide) ?_
    cases hf
    exact q_iret E hH dX7_place_7
set_option maxRecDepth 100000 in
theorem tX7_place (l : Launch) (D : va_G) (cA : Nat → ClassId) (z0 : Nat) (v0 : Option Nat) (v1 : Option Nat) (v2 : Int32) (v3 : Int32) (v4 : Int32) (Z : q_Z) (M : q_C) (r : Int32) (hf : fX7_place v0 v1 v2 v3 v4 Z M = some r) : q_Ct l D cA z0 yX7_place cX7_place 6 (some .int) 0 0 [va_rf v0, va_rf v1, .int v2, .int v3, .int v4] Z M (some (.int r)) Z M 0 0 := by
  cases v0 <;>
  cases v1 <;>
  (refine q_start (plainFor_of_name (by decide)) (Nat.le_of_ble_eq_true rfl) (fun p e s m below meth c H ls E hH hl => ?_); exact bX7_place_0 E ⟨Nat.le_refl _, Nat.le_refl _⟩ ⟨Nat.le_refl _, Nat.le_refl _⟩ _ _ _ _ _ Z M H [] ls r hf hH hl)
def fX7_now (h : Nat) (v1 : Int32) (v2 : Int32) (v3 : Int32) (Z : q_Z) (M : q_C) : Option (Int32) :=
  q_gd (zK Z h == 17) <|
  Option.bind (gR M h 1) fun a_2 =>
  Option.bind (gR M h 0) fun a_4 =>
  Option.bind (fX7_place (some a_2) (some a_4) v1 v2 v3 Z M) fun r_6 =>
  some r_6
set_option maxHeartbeats 4000000 in
set_option maxRecDepth 100000 in
theorem bX7_now_0 {cells slots : Nat} (E : q_E p s m meth c cX7_now 4 RX7 (some .int) "now" D cA) (hR : 1 ≤ R.frames ∧ 25 ≤ R.locals) (hcc : cells ≤ R.cells ∧ slots ≤ R.slots) (h : Nat) (v1 : Int32) (v2 : Int32) (v3 : Int32) (Z : q_Z) (M : q_C) (H : Heap) (locs : List Loc) (ls : Array Slot) (r : Int32) (hf : fX7_now h v1 v2 v3 Z M = some r) (hH : q_Hh D cA z0 s Z M H locs) (hl : lv_has ls 4 [(0, .ref h), (1, .int v1), (2, .int v2), (3, .int v3)])  : W p l e R s m args below meth c H locs cells slots (MQ below (q_Q D cA z0 (some (.int r)) Z M) args s cells slots (fun q => z0 ≤ q)) (F0 m 0 ls []) := by
  have hx := E.1
  have hb := E.2.1
  have hown := E.2.2.2.1
  have hT := E.2.2.2.2.2.2.2.1
  unfold fX7_now at hf
  refine lv_aload_n hx hb dX7_now_0 rfl (lv_at hl 0 rfl) ?_
  obtain ⟨hk_1, hf⟩ := q_gdE hf
  have hk_1 := q_keq hk_1
  refine q_getR E hH (ci := 7) rfl 1 (by decide) kF_X7_13 (fun _ _ _ => rfl) hk_1 dX7_now_1 ?_
  obtain ⟨a_2, he_3, hf⟩ := q_biE hf
  rw [he_3]
  refine lv_aload_n hx hb dX7_now_4 rfl (lv_at hl 0 rfl) ?_
  refine q_getR E hH (ci := 7) rfl 0 (by decide) kF_X7_7 (fun _ _ _ => rfl) hk_1 dX7_now_5 ?_
  obtain ⟨a_4, he_5, hf⟩ := q_biE hf
  rw [he_5]
  refine lv_iload_n hx hb dX7_now_8 rfl (lv_at hl 1 rfl) ?_
  refine lv_iload_n hx hb dX7_now_9 rfl (lv_at hl 2 rfl) ?_
  refine lv_iload_n hx hb dX7_now_10 rfl (lv_at hl 3 rfl) ?_
  obtain ⟨r_6, hw_7, hf⟩ := q_biE hf
  refine q_cS (As := [.ref a_2, .ref a_4, .int v1, .int v2, .int v3]) (rest := []) (st1 := [.int r_6]) E hH (tX7_place l D cA z0 (some a_2) (some a_4) v1 v2 v3 Z M r_6 hw_7) mw_X7_place mi_X7_place kM_X7_117 hcc rfl rfl rfl hl.1 rfl rfl (Nat.le_of_ble_eq_true rfl) ⟨Nat.le_trans (by decide) hR.1, Nat.le_trans (by decide) hR.2⟩ dX7_now_11 (fun H locs hH => ?_)
  cases hf
  exact q_iret E hH dX7_now_14
set_option maxRecDepth 100000 in
theorem tX7_now (l : Launch) (D : va_G) (cA : Nat → ClassId) (z0 : Nat) (h : Nat) (v1 : Int32) (v2 : Int32) (v3 : Int32) (Z : q_Z) (M : q_C) (r : Int32) (hf : fX7_now h v1 v2 v3 Z M = some r) : q_Ct l D cA z0 yX7_now cX7_now 4 (some .int) 1 25 [.ref h, .int v1, .int v2, .int v3] Z M (some (.int r)) Z M 0 0 := by
  (refine q_start (plainFor_of_name (by decide)) (Nat.le_of_ble_eq_true rfl) (fun p e s m below meth c H ls E hH hl => ?_); exact bX7_now_0 E ⟨Nat.le_refl _, Nat.le_refl _⟩ ⟨Nat.le_refl _, Nat.le_refl _⟩ h _ _ _ Z M H [] ls r hf hH hl)
def fX7_root_b33 (v0 : Int64) (v2 : Int64) (v4 : Int64) : Option ((Int64 × Int64) ⊕ Int64) :=
  q_nm (v4 >>> ((1 : Int32).toInt64 &&& 63)) fun v4_1 =>
  some (Sum.inl (v2, v4_1))
set_option maxHeartbeats 4000000 in
set_option maxRecDepth 100000 in
theorem bX7_root_33 {cells slots : Nat} {Q : State → Prop} (E : q_E p s m meth c cX7_root 6 RX7 (some .long) "root" D cA) (hR : 0 ≤ R.frames ∧ 0 ≤ R.locals) (hcc : cells ≤ R.cells ∧ slots ≤ R.slots) (Z : q_Z) (M : q_C) (v0 : Int64) (v2 : Int64) (v4 : Int64) (H : Heap) (locs : List Loc) (ls : Array Slot) (o : (Int64 × Int64) ⊕ Int64) (hf : fX7_root_b33 v0 v2 v4 = some o) (hH : q_Hh D cA z0 s Z M H locs) (hl : lv_has ls 6 [(0, .long v0), (2, .long v2), (4, .long v4)]) (kb : ∀ (w2 : Int64) (w4 : Int64) (H : Heap) (locs : List Loc) (ls : Array Slot), Sum.inl (w2, w4) = o → q_Hh D cA z0 s Z M H locs → lv_has ls 6 [(0, .long v0), (2, .long w2), (4, .long w4)] → W p l e R s m args below meth c H locs cells slots Q (F0 m 7 ls [])) (kx0 : ∀ (w2 : Int64) (H : Heap) (locs : List Loc) (ls : Array Slot), Sum.inr w2 = o → q_Hh D cA z0 s Z M H locs → lv_has ls 6 [(2, .long w2)] → W p l e R s m args below meth c H locs cells slots Q (F0 m 42 ls [])) : W p l e R s m args below meth c H locs cells slots Q (F0 m 33 ls []) := by
  have hx := E.1
  have hb := E.2.1
  have hown := E.2.2.2.1
  have hT := E.2.2.2.2.2.2.2.1
  unfold fX7_root_b33 at hf
  refine lv_lload hx hb dX7_root_33 (lv_at hl 2 rfl) ?_
  refine lv_iconst (v := 1) hx hb dX7_root_35 (by decide) ?_
  refine lv_lshr hx hb dX7_root_36 rfl ?_
  refine lv_topl (fun v4_1 hn_2 => ?_)
  replace hf := q_nmE hn_2 hf
  clear hn_2
  refine lv_lstore (lv' := [(4, .long v4_1), (0, .long v0), (2, .long v2)]) hx hb dX7_root_37 hl (by decide) rfl (fun ls hl => ?_)
  refine lv_goto (tgt := 7) hx hb dX7_root_39 (by decide) ?_
  cases hf
  exact kb v2 v4_1 _ _ _ rfl hH (lv_sub hl [1, 2, 0] rfl)
def fX7_root_L7 (v0 : Int64) (v2 : Int64) (v4 : Int64) : Option ((Int64 × Int64) ⊕ Int64) :=
  if v4 ≤ (0 : Int64) then
    some (Sum.inr v2)
  else
    if v0 < (v2 + v4) * (v2 + v4) then
      fX7_root_b33 v0 v2 v4
    else
      q_nm (v2 + v4) fun v2_3 =>
      fX7_root_b33 v0 v2_3 v4
set_option maxHeartbeats 4000000 in
set_option maxRecDepth 100000 in
theorem lX7_root_7 {cells slots : Nat} {Q : State → Prop} (E : q_E p s m meth c cX7_root 6 RX7 (some .long) "root" D cA) (hR : 0 ≤ R.frames ∧ 0 ≤ R.locals) (hcc : cells ≤ R.cells ∧ slots ≤ R.slots)  (Z : q_Z) (M : q_C) (v0 : Int64) : ∀ (n : Nat) (v2 : Int64) (v4 : Int64) (H : Heap) (locs : List Loc) (ls : Array Slot) (r : Int64), q_it (fun x => fX7_root_L7 v0 x.1 x.2) n (v2, v4) = some r → q_Hh D cA z0 s Z M H locs → lv_has ls 6 [(0, .long v0), (2, .long v2), (4, .long v4)] → (kx0 : ∀ (w2 : Int64) (H : Heap) (locs : List Loc) (ls : Array Slot), w2 = r → q_Hh D cA z0 s Z M H locs → lv_has ls 6 [(2, .long w2)] → W p l e R s m args below meth c H locs cells slots Q (F0 m 42 ls [])) → W p l e R s m args below meth c H locs cells slots Q (F0 m 7 ls []) := by
  have hx := E.1
  have hb := E.2.1
  have hown := E.2.2.2.1
  have hT := E.2.2.2.2.2.2.2.1
  intro n
  induction n with
  | zero =>
    intro v2 v4 H locs ls r hf
    cases hf
  | succ n ih =>
    intro v2 v4 H locs ls r hf hH hl ky0
    obtain ⟨n1, o, hn, hf, ho⟩ := q_itE hf
    cases hn
    have hf : fX7_root_L7 v0 v2 v4 = some o := hf
    have kb : ∀ (w2 : Int64) (w4 : Int64) (H : Heap) (locs : List Loc) (ls : Array Slot), Sum.inl (w2, w4) = o → q_Hh D cA z0 s Z M H locs → lv_has ls 6 [(0, .long v0), (2, .long w2), (4, .long w4)] → W p l e R s m args below meth c H locs cells slots Q (F0 m 7 ls []) := by
      intro w2 w4 H locs ls e hH hl
      subst e
      exact ih w2 w4 H locs ls r ho hH hl ky0
    have kx0 : ∀ (w2 : Int64) (H : Heap) (locs : List Loc) (ls : Array Slot), Sum.inr w2 = o → q_Hh D cA z0 s Z M H locs → lv_has ls 6 [(2, .long w2)] → W p l e R s m args below meth c H locs cells slots Q (F0 m 42 ls []) := by
      intro w2 H locs ls e hH hl
      subst e
      exact ky0 w2 H locs ls ho hH hl
    unfold fX7_root_L7 at hf
    refine lv_lload hx hb dX7_root_7 (lv_at hl 2 rfl) ?_
    refine lv_lconst (v := 0) hx hb dX7_root_9 (by decide) ?_
    refine q_lcmp_le (pc1 := 11) (tgt := 42) hx hb dX7_root_10 rfl dX7_root_11 (by decide) (fun cc_6 => ?_) (fun cc_6 => ?_)
    · replace hf := q_ifT cc_6 hf
      clear cc_6
      cases hf
      exact kx0 v2 _ _ _ rfl hH (lv_sub hl [1] rfl)
    · replace hf := q_ifF cc_6 hf
      clear cc_6
      refine lv_lload_n hx hb dX7_root_14 rfl (lv_at hl 1 rfl) ?_
      refine lv_lload hx hb dX7_root_15 (lv_at hl 2 rfl) ?_
      refine lv_ladd hx hb dX7_root_17 ?_
      refine lv_lload_n hx hb dX7_root_18 rfl (lv_at hl 1 rfl) ?_
      refine lv_lload hx hb dX7_root_19 (lv_at hl 2 rfl) ?_
      refine lv_ladd hx hb dX7_root_21 ?_
      refine lv_lmul hx hb dX7_root_22 ?_
      refine lv_lload_n hx hb dX7_root_23 rfl (lv_at hl 0 rfl) ?_
      refine q_lcmp_gt (pc1 := 25) (tgt := 33) hx hb dX7_root_24 rfl dX7_root_25 (by decide) (fun cc_5 => ?_) (fun cc_5 => ?_)
      · replace hf := q_ifT cc_5 hf
        clear cc_5
        exact bX7_root_33 E hR hcc Z M v0 v2 v4 _ _ _ _ hf hH (lv_sub hl [0, 1, 2] rfl) kb kx0
      · replace hf := q_ifF cc_5 hf
        clear cc_5
        refine lv_lload_n hx hb dX7_root_28 rfl (lv_at hl 1 rfl) ?_
        refine lv_lload hx hb dX7_root_29 (lv_at hl 2 rfl) ?_
        refine lv_ladd hx hb dX7_root_31 ?_
        refine lv_topl (fun v2_3 hn_4 => ?_)
        replace hf := q_nmE hn_4 hf
        clear hn_4
        refine lv_lstore_n (lv' := [(2, .long v2_3), (0, .long v0), (4, .long v4)]) hx hb dX7_root_32 rfl hl (by decide) rfl (fun ls hl => ?_)
        exact bX7_root_33 E hR hcc Z M v0 v2_3 v4 _ _ _ _ hf hH (lv_sub hl [1, 0, 2] rfl) kb kx0
def fX7_root (v0 : Int64) : Option (Int64) :=
  Option.bind (q_it (fun x => fX7_root_L7 v0 x.1 x.2) q_FU ((0 : Int64), (2147483648 : Int64))) fun r_7 =>
  q_nm r_7 fun v2_9 =>
  some v2_9
set_option maxHeartbeats 4000000 in
set_option maxRecDepth 100000 in
theorem bX7_root_0 {cells slots : Nat} (E : q_E p s m meth c cX7_root 6 RX7 (some .long) "root" D cA) (hR : 0 ≤ R.frames ∧ 0 ≤ R.locals) (hcc : cells ≤ R.cells ∧ slots ≤ R.slots) (Z : q_Z) (M : q_C) (v0 : Int64) (H : Heap) (locs : List Loc) (ls : Array Slot) (r : Int64) (hf : fX7_root v0 = some r) (hH : q_Hh D cA z0 s Z M H locs) (hl : lv_has ls 6 [(0, .long v0)])  : W p l e R s m args below meth c H locs cells slots (MQ below (q_Q D cA z0 (some (.long r)) Z M) args s cells slots (fun q => z0 ≤ q)) (F0 m 0 ls []) := by
  have hx := E.1
  have hb := E.2.1
  have hown := E.2.2.2.1
  have hT := E.2.2.2.2.2.2.2.1
  unfold fX7_root at hf
  refine lv_lconst (v := 0) hx hb dX7_root_0 (by decide) ?_
  refine lv_lstore_n (lv' := [(2, .long (0 : Int64)), (0, .long v0)]) hx hb dX7_root_1 rfl hl (by decide) rfl (fun ls hl => ?_)
  refine lv_ldc2 hx hb hown (hT.1 _ _ kK_X7_121) dX7_root_2 ?_
  refine lv_lstore (lv' := [(4, .long (2147483648 : Int64)), (2, .long (0 : Int64)), (0, .long v0)]) hx hb dX7_root_5 hl (by decide) rfl (fun ls hl => ?_)
  obtain ⟨r_7, hr_8, hf⟩ := q_biE hf
  refine lX7_root_7 E hR hcc Z M v0 q_FU (0 : Int64) (2147483648 : Int64) _ _ _ r_7 hr_8 hH (lv_sub hl [2, 1, 0] rfl) (fun v2_9 H locs ls he_10 hH hl => ?_)
  · subst he_10
    replace hf := q_nmE (x := v2_9) rfl hf
    refine lv_lload_n hx hb dX7_root_42 rfl (lv_at hl 0 rfl) ?_
    cases hf
    exact q_lret E hH dX7_root_43
set_option maxRecDepth 100000 in
theorem tX7_root (l : Launch) (D : va_G) (cA : Nat → ClassId) (z0 : Nat) (Z : q_Z) (M : q_C) (v0 : Int64) (r : Int64) (hf : fX7_root v0 = some r) : q_Ct l D cA z0 yX7_root cX7_root 6 (some .long) 0 0 [.long v0] Z M (some (.long r)) Z M 0 0 := by
  (refine q_start (plainFor_of_name (by decide)) (Nat.le_of_ble_eq_true rfl) (fun p e s m below meth c H ls E hH hl => ?_); exact bX7_root_0 E ⟨Nat.le_refl _, Nat.le_refl _⟩ ⟨Nat.le_refl _, Nat.le_refl _⟩ Z M _ H [] ls r hf hH hl)
def fX7_seenX (h : Nat) (v1 : Int32) (v2 : Int64) (Z : q_Z) (M : q_C) : Option (Int64) :=
  q_gd (zK Z h == 17) <|
  Option.bind (gR M h 7) fun a_2 =>
  q_gd (q_ok Z a_2 1 (((5 : Int32) * v1) + (1 : Int32))) <|
  Option.bind (fX7_now h (0 : Int32) (gI M a_2 (((5 : Int32) * v1) + (1 : Int32)).toNatClampNeg) (0 : Int32) Z M) fun r_5 =>
  Option.bind (gR M h 7) fun a_7 =>
  q_gd (q_ok Z a_7 1 (((5 : Int32) * v1) + (2 : Int32))) <|
  Option.bind (gR M h 7) fun a_10 =>
  q_gd (q_ok Z a_10 1 (((5 : Int32) * v1) + (2 : Int32))) <|
  Option.bind (gR M h 7) fun a_13 =>
  q_gd (q_ok Z a_13 1 (((5 : Int32) * v1) + (2 : Int32))) <|
  Option.bind (gR M h 7) fun a_16 =>
  q_gd (q_ok Z a_16 1 (((5 : Int32) * v1) + (3 : Int32))) <|
  Option.bind (gR M h 7) fun a_19 =>
  q_gd (q_ok Z a_19 1 (((5 : Int32) * v1) + (3 : Int32))) <|
  Option.bind (fX7_root ((((gI M a_10 (((5 : Int32) * v1) + (2 : Int32)).toNatClampNeg).toInt64) * ((gI M a_13 (((5 : Int32) * v1) + (2 : Int32)).toNatClampNeg).toInt64)) + (((gI M a_16 (((5 : Int32) * v1) + (3 : Int32)).toNatClampNeg).toInt64) * ((gI M a_19 (((5 : Int32) * v1) + (3 : Int32)).toNatClampNeg).toInt64)))) fun r_22 =>
  q_gd (!(decide (r_22 = 0))) <|
  some (r_5.toInt64 + ((((gI M a_7 (((5 : Int32) * v1) + (2 : Int32)).toNatClampNeg).toInt64) * v2) / r_22))
set_option maxHeartbeats 4000000 in
set_option maxRecDepth 100000 in
theorem bX7_seenX_0 {cells slots : Nat} (E : q_E p s m meth c cX7_seenX 4 RX7 (some .long) "seenX" D cA) (hR : 2 ≤ R.frames ∧ 48 ≤ R.locals) (hcc : cells ≤ R.cells ∧ slots ≤ R.slots) (h : Nat) (v1 : Int32) (v2 : Int64) (Z : q_Z) (M : q_C) (H : Heap) (locs : List Loc) (ls : Array Slot) (r : Int64) (hf : fX7_seenX h v1 v2 Z M = some r) (hH : q_Hh D cA z0 s Z M H locs) (hl : lv_has ls 4 [(0, .ref h), (1, .int v1), (2, .long v2)])  : W p l e R s m args below meth c H locs cells slots (MQ below (q_Q D cA z0 (some (.long r)) Z M) args s cells slots (fun q => z0 ≤ q)) (F0 m 0 ls []) := by
  have hx := E.1
  have hb := E.2.1
  have hown := E.2.2.2.1
  have hT := E.2.2.2.2.2.2.2.1
  unfold fX7_seenX at hf
  refine lv_aload_n hx hb dX7_seenX_0 rfl (lv_at hl 0 rfl) ?_
  refine lv_iconst (v := 0) hx hb dX7_seenX_1 (by decide) ?_
  refine lv_aload_n hx hb dX7_seenX_2 rfl (lv_at hl 0 rfl) ?_
  obtain ⟨hk_1, hf⟩ := q_gdE hf
  have hk_1 := q_keq hk_1
  refine q_getR E hH (ci := 7) rfl 7 (by decide) kF_X7_32 (fun _ _ _ => rfl) hk_1 dX7_seenX_3 ?_
  obtain ⟨a_2, he_3, hf⟩ := q_biE hf
  rw [he_3]
  refine lv_iconst (v := 5) hx hb dX7_seenX_6 (by decide) ?_
  refine lv_iload_n hx hb dX7_seenX_7 rfl (lv_at hl 1 rfl) ?_
  refine lv_imul hx hb dX7_seenX_8 ?_
  refine lv_iconst (v := 1) hx hb dX7_seenX_9 (by decide) ?_
  refine lv_iadd hx hb dX7_seenX_10 ?_
  obtain ⟨hz_4, hf⟩ := q_gdE hf
  refine q_iaload E hH hz_4 dX7_seenX_11 ?_
  refine lv_iconst (v := 0) hx hb dX7_seenX_12 (by decide) ?_
  obtain ⟨r_5, hw_6, hf⟩ := q_biE hf
  refine q_cV (As := [.int (0 : Int32), .int (gI M a_2 (((5 : Int32) * v1) + (1 : Int32)).toNatClampNeg), .int (0 : Int32)]) (rest := []) (st1 := [.int r_5]) E hH (tX7_now l D cA z0 h (0 : Int32) (gI M a_2 (((5 : Int32) * v1) + (1 : Int32)).toNatClampNeg) (0 : Int32) Z M r_5 hw_6) mw_X7_now mi_X7_now (ci := 7) rfl ms_X7_now kM_X7_133 hk_1 hcc rfl rfl rfl hl.1 rfl rfl (Nat.le_of_ble_eq_true rfl) ⟨Nat.le_trans (by decide) hR.1, Nat.le_trans (by decide) hR.2⟩ dX7_seenX_13 (fun H locs hH => ?_)
  refine lv_i2l hx hb dX7_seenX_16 rfl ?_
  refine lv_aload_n hx hb dX7_seenX_17 rfl (lv_at hl 0 rfl) ?_
  refine q_getR E hH (ci := 7) rfl 7 (by decide) kF_X7_32 (fun _ _ _ => rfl) hk_1 dX7_seenX_18 ?_
  obtain ⟨a_7, he_8, hf⟩ := q_biE hf
  rw [he_8]
  refine lv_iconst (v := 5) hx hb dX7_seenX_21 (by decide) ?_
  refine lv_iload_n hx hb dX7_seenX_22 rfl (lv_at hl 1 rfl) ?_
  refine lv_imul hx hb dX7_seenX_23 ?_
  refine lv_iconst (v := 2) hx hb dX7_seenX_24 (by decide) ?_
  refine lv_iadd hx hb dX7_seenX_25 ?_
  obtain ⟨hz_9, hf⟩ := q_gdE hf
  refine q_iaload E hH hz_9 dX7_seenX_26 ?_
  refine lv_i2l hx hb dX7_seenX_27 rfl ?_
  refine lv_lload_n hx hb dX7_seenX_28 rfl (lv_at hl 2 rfl) ?_
  refine lv_lmul hx hb dX7_seenX_29 ?_
  refine lv_aload_n hx hb dX7_seenX_30 rfl (lv_at hl 0 rfl) ?_
  refine q_getR E hH (ci := 7) rfl 7 (by decide) kF_X7_32 (fun _ _ _ => rfl) hk_1 dX7_seenX_31 ?_
  obtain ⟨a_10, he_11, hf⟩ := q_biE hf
  rw [he_11]
  refine lv_iconst (v := 5) hx hb dX7_seenX_34 (by decide) ?_
  refine lv_iload_n hx hb dX7_seenX_35 rfl (lv_at hl 1 rfl) ?_
  refine lv_imul hx hb dX7_seenX_36 ?_
  refine lv_iconst (v := 2) hx hb dX7_seenX_37 (by decide) ?_
  refine lv_iadd hx hb dX7_seenX_38 ?_
  obtain ⟨hz_12, hf⟩ := q_gdE hf
  refine q_iaload E hH hz_12 dX7_seenX_39 ?_
  refine lv_i2l hx hb dX7_seenX_40 rfl ?_
  refine lv_aload_n hx hb dX7_seenX_41 rfl (lv_at hl 0 rfl) ?_
  refine q_getR E hH (ci := 7) rfl 7 (by decide) kF_X7_32 (fun _ _ _ => rfl) hk_1 dX7_seenX_42 ?_
  obtain ⟨a_13, he_14, hf⟩ := q_biE hf
  rw [he_14]
  refine lv_iconst (v := 5) hx hb dX7_seenX_45 (by decide) ?_
  refine lv_iload_n hx hb dX7_seenX_46 rfl (lv_at hl 1 rfl) ?_
  refine lv_imul hx hb dX7_seenX_47 ?_
  refine lv_iconst (v := 2) hx hb dX7_seenX_48 (by decide) ?_
  refine lv_iadd hx hb dX7_seenX_49 ?_
  obtain ⟨hz_15, hf⟩ := q_gdE hf
  refine q_iaload E hH hz_15 dX7_seenX_50 ?_
  refine lv_i2l hx hb dX7_seenX_51 rfl ?_
  refine lv_lmul hx hb dX7_seenX_52 ?_
  refine lv_aload_n hx hb dX7_seenX_53 rfl (lv_at hl 0 rfl) ?_
  refine q_getR E hH (ci := 7) rfl 7 (by decide) kF_X7_32 (fun _ _ _ => rfl) hk_1 dX7_seenX_54 ?_
  obtain ⟨a_16, he_17, hf⟩ := q_biE hf
  rw [he_17]
  refine lv_iconst (v := 5) hx hb dX7_seenX_57 (by decide) ?_
  refine lv_iload_n hx hb dX7_seenX_58 rfl (lv_at hl 1 rfl) ?_
  refine lv_imul hx hb dX7_seenX_59 ?_
  refine lv_iconst (v := 3) hx hb dX7_seenX_60 (by decide) ?_
  refine lv_iadd hx hb dX7_seenX_61 ?_
  obtain ⟨hz_18, hf⟩ := q_gdE hf
  refine q_iaload E hH hz_18 dX7_seenX_62 ?_
  refine lv_i2l hx hb dX7_seenX_63 rfl ?_
  refine lv_aload_n hx hb dX7_seenX_64 rfl (lv_at hl 0 rfl) ?_
  refine q_getR E hH (ci := 7) rfl 7 (by decide) kF_X7_32 (fun _ _ _ => rfl) hk_1 dX7_seenX_65 ?_
  obtain ⟨a_19, he_20, hf⟩ := q_biE hf
  rw [he_20]
  refine lv_iconst (v := 5) hx hb dX7_seenX_68 (by decide) ?_
  refine lv_iload_n hx hb dX7_seenX_69 rfl (lv_at hl 1 rfl) ?_
  refine lv_imul hx hb dX7_seenX_70 ?_
  refine lv_iconst (v := 3) hx hb dX7_seenX_71 (by decide) ?_
  refine lv_iadd hx hb dX7_seenX_72 ?_
  obtain ⟨hz_21, hf⟩ := q_gdE hf
  refine q_iaload E hH hz_21 dX7_seenX_73 ?_
  refine lv_i2l hx hb dX7_seenX_74 rfl ?_
  refine lv_lmul hx hb dX7_seenX_75 ?_
  refine lv_ladd hx hb dX7_seenX_76 ?_
  obtain ⟨r_22, hw_23, hf⟩ := q_biE hf
  refine q_cS (As := [.long ((((gI M a_10 (((5 : Int32) * v1) + (2 : Int32)).toNatClampNeg).toInt64) * ((gI M a_13 (((5 : Int32) * v1) + (2 : Int32)).toNatClampNeg).toInt64)) + (((gI M a_16 (((5 : Int32) * v1) + (3 : Int32)).toNatClampNeg).toInt64) * ((gI M a_19 (((5 : Int32) * v1) + (3 : Int32)).toNatClampNeg).toInt64)))]) (rest := [.long (((gI M a_7 (((5 : Int32) * v1) + (2 : Int32)).toNatClampNeg).toInt64) * v2), .long r_5.toInt64]) (st1 := [.long r_22, .long (((gI M a_7 (((5 : Int32) * v1) + (2 : Int32)).toNatClampNeg).toInt64) * v2), .long r_5.toInt64]) E hH (tX7_root l D cA z0 Z M ((((gI M a_10 (((5 : Int32) * v1) + (2 : Int32)).toNatClampNeg).toInt64) * ((gI M a_13 (((5 : Int32) * v1) + (2 : Int32)).toNatClampNeg).toInt64)) + (((gI M a_16 (((5 : Int32) * v1) + (3 : Int32)).toNatClampNeg).toInt64) * ((gI M a_19 (((5 : Int32) * v1) + (3 : Int32)).toNatClampNeg).toInt64))) r_22 hw_23) mw_X7_root mi_X7_root kM_X7_123 hcc rfl rfl rfl hl.1 rfl rfl (Nat.le_of_ble_eq_true rfl) ⟨Nat.le_trans (by decide) hR.1, Nat.le_trans (by decide) hR.2⟩ dX7_seenX_77 (fun H locs hH => ?_)
  obtain ⟨hz_24, hf⟩ := q_gdE hf
  refine lv_ldiv hx hb dX7_seenX_80 (by simpa using hz_24) ?_
  refine lv_ladd hx hb dX7_seenX_81 ?_
  cases hf
  exact q_lret E hH dX7_seenX_82
set_option maxRecDepth 100000 in
theorem tX7_seenX (l : Launch) (D : va_G) (cA : Nat → ClassId) (z0 : Nat) (h : Nat) (v1 : Int32) (v2 : Int64) (Z : q_Z) (M : q_C) (r : Int64) (hf : fX7_seenX h v1 v2 Z M = some r) : q_Ct l D cA z0 yX7_seenX cX7_seenX 4 (some .long) 2 48 [.ref h, .int v1, .long v2] Z M (some (.long r)) Z M 0 0 := by
  (refine q_start (plainFor_of_name (by decide)) (Nat.le_of_ble_eq_true rfl) (fun p e s m below meth c H ls E hH hl => ?_); exact bX7_seenX_0 E ⟨Nat.le_refl _, Nat.le_refl _⟩ ⟨Nat.le_refl _, Nat.le_refl _⟩ h _ _ Z M H [] ls r hf hH hl)
def fX7_seenY (h : Nat) (v1 : Int32) (v2 : Int64) (Z : q_Z) (M : q_C) : Option (Int64) :=
  q_gd (zK Z h == 17) <|
  Option.bind (gR M h 7) fun a_2 =>
  q_gd (q_ok Z a_2 1 (((5 : Int32) * v1) + (1 : Int32))) <|
  Option.bind (fX7_now h (0 : Int32) (gI M a_2 (((5 : Int32) * v1) + (1 : Int32)).toNatClampNeg) (1 : Int32) Z M) fun r_5 =>
  Option.bind (gR M h 7) fun a_7 =>
  q_gd (q_ok Z a_7 1 (((5 : Int32) * v1) + (3 : Int32))) <|
  Option.bind (gR M h 7) fun a_10 =>
  q_gd (q_ok Z a_10 1 (((5 : Int32) * v1) + (2 : Int32))) <|
  Option.bind (gR M h 7) fun a_13 =>
  q_gd (q_ok Z a_13 1 (((5 : Int32) * v1) + (2 : Int32))) <|
  Option.bind (gR M h 7) fun a_16 =>
  q_gd (q_ok Z a_16 1 (((5 : Int32) * v1) + (3 : Int32))) <|
  Option.bind (gR M h 7) fun a_19 =>
  q_gd (q_ok Z a_19 1 (((5 : Int32) * v1) + (3 : Int32))) <|
  Option.bind (fX7_root ((((gI M a_10 (((5 : Int32) * v1) + (2 : Int32)).toNatClampNeg).toInt64) * ((gI M a_13 (((5 : Int32) * v1) + (2 : Int32)).toNatClampNeg).toInt64)) + (((gI M a_16 (((5 : Int32) * v1) + (3 : Int32)).toNatClampNeg).toInt64) * ((gI M a_19 (((5 : Int32) * v1) + (3 : Int32)).toNatClampNeg).toInt64)))) fun r_22 =>
  q_gd (!(decide (r_22 = 0))) <|
  some (r_5.toInt64 + ((((gI M a_7 (((5 : Int32) * v1) + (3 : Int32)).toNatClampNeg).toInt64) * v2) / r_22))
set_option maxHeartbeats 4000000 in
set_option maxRecDepth 100000 in
theorem bX7_seenY_0 {cells slots : Nat} (E : q_E p s m meth c cX7_seenY 4 RX7 (some .long) "seenY" D cA) (hR : 2 ≤ R.frames ∧ 48 ≤ R.locals) (hcc : cells ≤ R.cells ∧ slots ≤ R.slots) (h : Nat) (v1 : Int32) (v2 : Int64) (Z : q_Z) (M : q_C) (H : Heap) (locs : List Loc) (ls : Array Slot) (r : Int64) (hf : fX7_seenY h v1 v2 Z M = some r) (hH : q_Hh D cA z0 s Z M H locs) (hl : lv_has ls 4 [(0, .ref h), (1, .int v1), (2, .long v2)])  : W p l e R s m args below meth c H locs cells slots (MQ below (q_Q D cA z0 (some (.long r)) Z M) args s cells slots (fun q => z0 ≤ q)) (F0 m 0 ls []) := by
  have hx := E.1
  have hb := E.2.1
  have hown := E.2.2.2.1
  have hT := E.2.2.2.2.2.2.2.1
  unfold fX7_seenY at hf
  refine lv_aload_n hx hb dX7_seenY_0 rfl (lv_at hl 0 rfl) ?_
  refine lv_iconst (v := 0) hx hb dX7_seenY_1 (by decide) ?_
  refine lv_aload_n hx hb dX7_seenY_2 rfl (lv_at hl 0 rfl) ?_
  obtain ⟨hk_1, hf⟩ := q_gdE hf
  have hk_1 := q_keq hk_1
  refine q_getR E hH (ci := 7) rfl 7 (by decide) kF_X7_32 (fun _ _ _ => rfl) hk_1 dX7_seenY_3 ?_
  obtain ⟨a_2, he_3, hf⟩ := q_biE hf
  rw [he_3]
  refine lv_iconst (v := 5) hx hb dX7_seenY_6 (by decide) ?_
  refine lv_iload_n hx hb dX7_seenY_7 rfl (lv_at hl 1 rfl) ?_
  refine lv_imul hx hb dX7_seenY_8 ?_
  refine lv_iconst (v := 1) hx hb dX7_seenY_9 (by decide) ?_
  refine lv_iadd hx hb dX7_seenY_10 ?_
  obtain ⟨hz_4, hf⟩ := q_gdE hf
  refine q_iaload E hH hz_4 dX7_seenY_11 ?_
  refine lv_iconst (v := 1) hx hb dX7_seenY_12 (by decide) ?_
  obtain ⟨r_5, hw_6, hf⟩ := q_biE hf
  refine q_cV (As := [.int (0 : Int32), .int (gI M a_2 (((5 : Int32) * v1) + (1 : Int32)).toNatClampNeg), .int (1 : Int32)]) (rest := []) (st1 := [.int r_5]) E hH (tX7_now l D cA z0 h (0 : Int32) (gI M a_2 (((5 : Int32) * v1) + (1 : Int32)).toNatClampNeg) (1 : Int32) Z M r_5 hw_6) mw_X7_now mi_X7_now (ci := 7) rfl ms_X7_now kM_X7_133 hk_1 hcc rfl rfl rfl hl.1 rfl rfl (Nat.le_of_ble_eq_true rfl) ⟨Nat.le_trans (by decide) hR.1, Nat.le_trans (by decide) hR.2⟩ dX7_seenY_13 (fun H locs hH => ?_)
  refine lv_i2l hx hb dX7_seenY_16 rfl ?_
  refine lv_aload_n hx hb dX7_seenY_17 rfl (lv_at hl 0 rfl) ?_
  refine q_getR E hH (ci := 7) rfl 7 (by decide) kF_X7_32 (fun _ _ _ => rfl) hk_1 dX7_seenY_18 ?_
  obtain ⟨a_7, he_8, hf⟩ := q_biE hf
  rw [he_8]
  refine lv_iconst (v := 5) hx hb dX7_seenY_21 (by decide) ?_
  refine lv_iload_n hx hb dX7_seenY_22 rfl (lv_at hl 1 rfl) ?_
  refine lv_imul hx hb dX7_seenY_23 ?_
  refine lv_iconst (v := 3) hx hb dX7_seenY_24 (by decide) ?_
  refine lv_iadd hx hb dX7_seenY_25 ?_
  obtain ⟨hz_9, hf⟩ := q_gdE hf
  refine q_iaload E hH hz_9 dX7_seenY_26 ?_
  refine lv_i2l hx hb dX7_seenY_27 rfl ?_
  refine lv_lload_n hx hb dX7_seenY_28 rfl (lv_at hl 2 rfl) ?_
  refine lv_lmul hx hb dX7_seenY_29 ?_
  refine lv_aload_n hx hb dX7_seenY_30 rfl (lv_at hl 0 rfl) ?_
  refine q_getR E hH (ci := 7) rfl 7 (by decide) kF_X7_32 (fun _ _ _ => rfl) hk_1 dX7_seenY_31 ?_
  obtain ⟨a_10, he_11, hf⟩ := q_biE hf
  rw [he_11]
  refine lv_iconst (v := 5) hx hb dX7_seenY_34 (by decide) ?_
  refine lv_iload_n hx hb dX7_seenY_35 rfl (lv_at hl 1 rfl) ?_
  refine lv_imul hx hb dX7_seenY_36 ?_
  refine lv_iconst (v := 2) hx hb dX7_seenY_37 (by decide) ?_
  refine lv_iadd hx hb dX7_seenY_38 ?_
  obtain ⟨hz_12, hf⟩ := q_gdE hf
  refine q_iaload E hH hz_12 dX7_seenY_39 ?_
  refine lv_i2l hx hb dX7_seenY_40 rfl ?_
  refine lv_aload_n hx hb dX7_seenY_41 rfl (lv_at hl 0 rfl) ?_
  refine q_getR E hH (ci := 7) rfl 7 (by decide) kF_X7_32 (fun _ _ _ => rfl) hk_1 dX7_seenY_42 ?_
  obtain ⟨a_13, he_14, hf⟩ := q_biE hf
  rw [he_14]
  refine lv_iconst (v := 5) hx hb dX7_seenY_45 (by decide) ?_
  refine lv_iload_n hx hb dX7_seenY_46 rfl (lv_at hl 1 rfl) ?_
  refine lv_imul hx hb dX7_seenY_47 ?_
  refine lv_iconst (v := 2) hx hb dX7_seenY_48 (by decide) ?_
  refine lv_iadd hx hb dX7_seenY_49 ?_
  obtain ⟨hz_15, hf⟩ := q_gdE hf
  refine q_iaload E hH hz_15 dX7_seenY_50 ?_
  refine lv_i2l hx hb dX7_seenY_51 rfl ?_
  refine lv_lmul hx hb dX7_seenY_52 ?_
  refine lv_aload_n hx hb dX7_seenY_53 rfl (lv_at hl 0 rfl) ?_
  refine q_getR E hH (ci := 7) rfl 7 (by decide) kF_X7_32 (fun _ _ _ => rfl) hk_1 dX7_seenY_54 ?_
  obtain ⟨a_16, he_17, hf⟩ := q_biE hf
  rw [he_17]
  refine lv_iconst (v := 5) hx hb dX7_seenY_57 (by decide) ?_
  refine lv_iload_n hx hb dX7_seenY_58 rfl (lv_at hl 1 rfl) ?_
  refine lv_imul hx hb dX7_seenY_59 ?_
  refine lv_iconst (v := 3) hx hb dX7_seenY_60 (by decide) ?_
  refine lv_iadd hx hb dX7_seenY_61 ?_
  obtain ⟨hz_18, hf⟩ := q_gdE hf
  refine q_iaload E hH hz_18 dX7_seenY_62 ?_
  refine lv_i2l hx hb dX7_seenY_63 rfl ?_
  refine lv_aload_n hx hb dX7_seenY_64 rfl (lv_at hl 0 rfl) ?_
  refine q_getR E hH (ci := 7) rfl 7 (by decide) kF_X7_32 (fun _ _ _ => rfl) hk_1 dX7_seenY_65 ?_
  obtain ⟨a_19, he_20, hf⟩ := q_biE hf
  rw [he_20]
  refine lv_iconst (v := 5) hx hb dX7_seenY_68 (by decide) ?_
  refine lv_iload_n hx hb dX7_seenY_69 rfl (lv_at hl 1 rfl) ?_
  refine lv_imul hx hb dX7_seenY_70 ?_
  refine lv_iconst (v := 3) hx hb dX7_seenY_71 (by decide) ?_
  refine lv_iadd hx hb dX7_seenY_72 ?_
  obtain ⟨hz_21, hf⟩ := q_gdE hf
  refine q_iaload E hH hz_21 dX7_seenY_73 ?_
  refine lv_i2l hx hb dX7_seenY_74 rfl ?_
  refine lv_lmul hx hb dX7_seenY_75 ?_
  refine lv_ladd hx hb dX7_seenY_76 ?_
  obtain ⟨r_22, hw_23, hf⟩ := q_biE hf
  refine q_cS (As := [.long ((((gI M a_10 (((5 : Int32) * v1) + (2 : Int32)).toNatClampNeg).toInt64) * ((gI M a_13 (((5 : Int32) * v1) + (2 : Int32)).toNatClampNeg).toInt64)) + (((gI M a_16 (((5 : Int32) * v1) + (3 : Int32)).toNatClampNeg).toInt64) * ((gI M a_19 (((5 : Int32) * v1) + (3 : Int32)).toNatClampNeg).toInt64)))]) (rest := [.long (((gI M a_7 (((5 : Int32) * v1) + (3 : Int32)).toNatClampNeg).toInt64) * v2), .long r_5.toInt64]) (st1 := [.long r_22, .long (((gI M a_7 (((5 : Int32) * v1) + (3 : Int32)).toNatClampNeg).toInt64) * v2), .long r_5.toInt64]) E hH (tX7_root l D cA z0 Z M ((((gI M a_10 (((5 : Int32) * v1) + (2 : Int32)).toNatClampNeg).toInt64) * ((gI M a_13 (((5 : Int32) * v1) + (2 : Int32)).toNatClampNeg).toInt64)) + (((gI M a_16 (((5 : Int32) * v1) + (3 : Int32)).toNatClampNeg).toInt64) * ((gI M a_19 (((5 : Int32) * v1) + (3 : Int32)).toNatClampNeg).toInt64))) r_22 hw_23) mw_X7_root mi_X7_root kM_X7_123 hcc rfl rfl rfl hl.1 rfl rfl (Nat.le_of_ble_eq_true rfl) ⟨Nat.le_trans (by decide) hR.1, Nat.le_trans (by decide) hR.2⟩ dX7_seenY_77 (fun H locs hH => ?_)
  obtain ⟨hz_24, hf⟩ := q_gdE hf
  refine lv_ldiv hx hb dX7_seenY_80 (by simpa using hz_24) ?_
  refine lv_ladd hx hb dX7_seenY_81 ?_
  cases hf
  exact q_lret E hH dX7_seenY_82
set_option maxRecDepth 100000 in
theorem tX7_seenY (l : Launch) (D : va_G) (cA : Nat → ClassId) (z0 : Nat) (h : Nat) (v1 : Int32) (v2 : Int64) (Z : q_Z) (M : q_C) (r : Int64) (hf : fX7_seenY h v1 v2 Z M = some r) : q_Ct l D cA z0 yX7_seenY cX7_seenY 4 (some .long) 2 48 [.ref h, .int v1, .long v2] Z M (some (.long r)) Z M 0 0 := by
  (refine q_start (plainFor_of_name (by decide)) (Nat.le_of_ble_eq_true rfl) (fun p e s m below meth c H ls E hH hl => ?_); exact bX7_seenY_0 E ⟨Nat.le_refl _, Nat.le_refl _⟩ ⟨Nat.le_refl _, Nat.le_refl _⟩ h _ _ Z M H [] ls r hf hH hl)
def fX7_isLost_b51 (s0 : Int32) : Option (Int32) :=
  q_gd (decide (s0 = 0) || decide (s0 = 1)) <|
  some s0
set_option maxHeartbeats 4000000 in
set_option maxRecDepth 100000 in
theorem bX7_isLost_51 {cells slots : Nat} (E : q_E p s m meth c cX7_isLost 4 RX7 (some .boolean) "isLost" D cA) (hR : 0 ≤ R.frames ∧ 0 ≤ R.locals) (hcc : cells ≤ R.cells ∧ slots ≤ R.slots) (Z : q_Z) (M : q_C) (s0 : Int32) (H : Heap) (locs : List Loc) (ls : Array Slot) (r : Int32) (hf : fX7_isLost_b51 s0 = some r) (hH : q_Hh D cA z0 s Z M H locs) (hl : lv_has ls 4 [])  : W p l e R s m args below meth c H locs cells slots (MQ below (q_Q D cA z0 (some (.int r)) Z M) args s cells slots (fun q => z0 ≤ q)) (F0 m 51 ls [.int s0]) := by
  have hx := E.1
  have hb := E.2.1
  have hown := E.2.2.2.1
  have hT := E.2.2.2.2.2.2.2.1
  unfold fX7_isLost_b51 at hf
  obtain ⟨hz_1, hf⟩ := q_gdE hf
  cases hf
  exact q_zret E hH hz_1 dX7_isLost_51
def fX7_isLost_b46  : Option (Int32) :=
  fX7_isLost_b51 (1 : Int32)
set_option maxHeartbeats 4000000 in
set_option maxRecDepth 100000 in
theorem bX7_isLost_46 {cells slots : Nat} (E : q_E p s m meth c cX7_isLost 4 RX7 (some .boolean) "isLost" D cA) (hR : 0 ≤ R.frames ∧ 0 ≤ R.locals) (hcc : cells ≤ R.cells ∧ slots ≤ R.slots) (Z : q_Z) (M : q_C) (H : Heap) (locs : List Loc) (ls : Array Slot) (r : Int32) (hf : fX7_isLost_b46 = some r) (hH : q_Hh D cA z0 s Z M H locs) (hl : lv_has ls 4 [])  : W p l e R s m args below meth c H locs cells slots (MQ below (q_Q D cA z0 (some (.int r)) Z M) args s cells slots (fun q => z0 ≤ q)) (F0 m 46 ls []) := by
  have hx := E.1
  have hb := E.2.1
  have hown := E.2.2.2.1
  have hT := E.2.2.2.2.2.2.2.1
  unfold fX7_isLost_b46 at hf
  refine lv_iconst (v := 1) hx hb dX7_isLost_46 (by decide) ?_
  refine lv_goto (tgt := 51) hx hb dX7_isLost_47 (by decide) ?_
  exact bX7_isLost_51 E hR hcc Z M (1 : Int32) _ _ _ _ hf hH (lv_sub hl [] rfl)
def fX7_isLost (v0 : Int64) (v2 : Int64) : Option (Int32) :=
  if (v0 * v0) + (v2 * v2) < (10000 : Int64) then
    fX7_isLost_b46 
  else
    if v0 < (-100000 : Int64) then
      fX7_isLost_b46 
    else
      if (100000 : Int64) < v0 then
        fX7_isLost_b46 
      else
        if v2 < (-100000 : Int64) then
          fX7_isLost_b46 
        else
          if v2 ≤ (100000 : Int64) then
            fX7_isLost_b51 (0 : Int32)
          else
            fX7_isLost_b46 
set_option maxHeartbeats 4000000 in
set_option maxRecDepth 100000 in
theorem bX7_isLost_0 {cells slots : Nat} (E : q_E p s m meth c cX7_isLost 4 RX7 (some .boolean) "isLost" D cA) (hR : 0 ≤ R.frames ∧ 0 ≤ R.locals) (hcc : cells ≤ R.cells ∧ slots ≤ R.slots) (Z : q_Z) (M : q_C) (v0 : Int64) (v2 : Int64) (H : Heap) (locs : List Loc) (ls : Array Slot) (r : Int32) (hf : fX7_isLost v0 v2 = some r) (hH : q_Hh D cA z0 s Z M H locs) (hl : lv_has ls 4 [(0, .long v0), (2, .long v2)])  : W p l e R s m args below meth c H locs cells slots (MQ below (q_Q D cA z0 (some (.int r)) Z M) args s cells slots (fun q => z0 ≤ q)) (F0 m 0 ls []) := by
  have hx := E.1
  have hb := E.2.1
  have hown := E.2.2.2.1
  have hT := E.2.2.2.2.2.2.2.1
  unfold fX7_isLost at hf
  refine lv_lload_n hx hb dX7_isLost_0 rfl (lv_at hl 0 rfl) ?_
  refine lv_lload_n hx hb dX7_isLost_1 rfl (lv_at hl 0 rfl) ?_
  refine lv_lmul hx hb dX7_isLost_2 ?_
  refine lv_lload_n hx hb dX7_isLost_3 rfl (lv_at hl 1 rfl) ?_
  refine lv_lload_n hx hb dX7_isLost_4 rfl (lv_at hl 1 rfl) ?_
  refine lv_lmul hx hb dX7_isLost_5 ?_
  refine lv_ladd hx hb dX7_isLost_6 ?_
  refine lv_ldc2 hx hb hown (hT.1 _ _ kK_X7_127) dX7_isLost_7 ?_
  refine q_lcmp_lt (pc1 := 11) (tgt := 46) hx hb dX7_isLost_10 rfl dX7_isLost_11 (by decide) (fun cc_6 => ?_) (fun cc_6 => ?_)
  · replace hf := q_ifT cc_6 hf
    clear cc_6
    exact bX7_isLost_46 E hR hcc Z M _ _ _ _ hf hH (lv_sub hl [] rfl)
  · replace hf := q_ifF cc_6 hf
    clear cc_6
    refine lv_lload_n hx hb dX7_isLost_14 rfl (lv_at hl 0 rfl) ?_
    refine lv_ldc2 hx hb hown (hT.1 _ _ kK_X7_129) dX7_isLost_15 ?_
    refine q_lcmp_lt (pc1 := 19) (tgt := 46) hx hb dX7_isLost_18 rfl dX7_isLost_19 (by decide) (fun cc_5 => ?_) (fun cc_5 => ?_)
    · replace hf := q_ifT cc_5 hf
      clear cc_5
      exact bX7_isLost_46 E hR hcc Z M _ _ _ _ hf hH (lv_sub hl [] rfl)
    · replace hf := q_ifF cc_5 hf
      clear cc_5
      refine lv_lload_n hx hb dX7_isLost_22 rfl (lv_at hl 0 rfl) ?_
      refine lv_ldc2 hx hb hown (hT.1 _ _ kK_X7_131) dX7_isLost_23 ?_
      refine q_lcmp_gt (pc1 := 27) (tgt := 46) hx hb dX7_isLost_26 rfl dX7_isLost_27 (by decide) (fun cc_4 => ?_) (fun cc_4 => ?_)
      · replace hf := q_ifT cc_4 hf
        clear cc_4
        exact bX7_isLost_46 E hR hcc Z M _ _ _ _ hf hH (lv_sub hl [] rfl)
      · replace hf := q_ifF cc_4 hf
        clear cc_4
        refine lv_lload_n hx hb dX7_isLost_30 rfl (lv_at hl 1 rfl) ?_
        refine lv_ldc2 hx hb hown (hT.1 _ _ kK_X7_129) dX7_isLost_31 ?_
        refine q_lcmp_lt (pc1 := 35) (tgt := 46) hx hb dX7_isLost_34 rfl dX7_isLost_35 (by decide) (fun cc_3 => ?_) (fun cc_3 => ?_)
        · replace hf := q_ifT cc_3 hf
          clear cc_3
          exact bX7_isLost_46 E hR hcc Z M _ _ _ _ hf hH (lv_sub hl [] rfl)
        · replace hf := q_ifF cc_3 hf
          clear cc_3
          refine lv_lload_n hx hb dX7_isLost_38 rfl (lv_at hl 1 rfl) ?_
          refine lv_ldc2 hx hb hown (hT.1 _ _ kK_X7_131) dX7_isLost_39 ?_
          refine q_lcmp_le (pc1 := 43) (tgt := 50) hx hb dX7_isLost_42 rfl dX7_isLost_43 (by decide) (fun cc_2 => ?_) (fun cc_2 => ?_)
          · replace hf := q_ifT cc_2 hf
            clear cc_2
            refine lv_iconst (v := 0) hx hb dX7_isLost_50 (by decide) ?_
            exact bX7_isLost_51 E hR hcc Z M (0 : Int32) _ _ _ _ hf hH (lv_sub hl [] rfl)
          · replace hf := q_ifF cc_2 hf
            clear cc_2
            exact bX7_isLost_46 E hR hcc Z M _ _ _ _ hf hH (lv_sub hl [] rfl)
set_option maxRecDepth 100000 in
theorem tX7_isLost (l : Launch) (D : va_G) (cA : Nat → ClassId) (z0 : Nat) (Z : q_Z) (M : q_C) (v0 : Int64) (v2 : Int64) (r : Int32) (hf : fX7_isLost v0 v2 = some r) : q_Ct l D cA z0 yX7_isLost cX7_isLost 4 (some .boolean) 0 0 [.long v0, .long v2] Z M (some (.int r)) Z M 0 0 := by
  (refine q_start (plainFor_of_name (by decide)) (Nat.le_of_ble_eq_true rfl) (fun p e s m below meth c H ls E hH hl => ?_); exact bX7_isLost_0 E ⟨Nat.le_refl _, Nat.le_refl _⟩ ⟨Nat.le_refl _, Nat.le_refl _⟩ Z M _ _ H [] ls r hf hH hl)
end Q231
