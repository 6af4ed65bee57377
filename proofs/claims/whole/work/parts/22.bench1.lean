section Q221
variable {p : Program} {l : Launch} {e : Env} {R : Room} {s : State} {m : MethodId} {args : Array Value} {below : List Frame} {meth : Method} {c : Code} {D : va_G} {cA : Nat → ClassId} {z0 : Nat}
def fX6_isWithin_b15 (s0 : Int32) : Option (Int32) :=
  q_gd (decide (s0 = 0) || decide (s0 = 1)) <|
  some s0
set_option maxHeartbeats 4000000 in
set_option maxRecDepth 100000 in
theorem bX6_isWithin_15 {cells slots : Nat} (E : q_E p s m meth c cX6_isWithin 3 RX6 (some .boolean) "isWithin" D cA) (hR : 0 ≤ R.frames ∧ 0 ≤ R.locals) (hcc : cells ≤ R.cells ∧ slots ≤ R.slots) (Z : q_Z) (M : q_C) (s0 : Int32) (H : Heap) (locs : List Loc) (ls : Array Slot) (r : Int32) (hf : fX6_isWithin_b15 s0 = some r) (hH : q_Hh D cA z0 s Z M H locs) (hl : lv_has ls 3 [])  : W p l e R s m args below meth c H locs cells slots (MQ below (q_Q D cA z0 (some (.int r)) Z M) args s cells slots (fun q => z0 ≤ q)) (F0 m 15 ls [.int s0]) := by
  have hx := E.1
  have hb := E.2.1
  have hown := E.2.2.2.1
  have hT := E.2.2.2.2.2.2.2.1
  unfold fX6_isWithin_b15 at hf
  obtain ⟨hz_1, hf⟩ := q_gdE hf
  cases hf
  exact q_zret E hH hz_1 dX6_isWithin_15
def fX6_isWithin_b14  : Option (Int32) :=
  fX6_isWithin_b15 (0 : Int32)
set_option maxHeartbeats 4000000 in
set_option maxRecDepth 100000 in
theorem bX6_isWithin_14 {cells slots : Nat} (E : q_E p s m meth c cX6_isWithin 3 RX6 (some .boolean) "isWithin" D cA) (hR : 0 ≤ R.frames ∧ 0 ≤ R.locals) (hcc : cells ≤ R.cells ∧ slots ≤ R.slots) (Z : q_Z) (M : q_C) (H : Heap) (locs : List Loc) (ls : Array Slot) (r : Int32) (hf : fX6_isWithin_b14 = some r) (hH : q_Hh D cA z0 s Z M H locs) (hl : lv_has ls 3 [])  : W p l e R s m args below meth c H locs cells slots (MQ below (q_Q D cA z0 (some (.int r)) Z M) args s cells slots (fun q => z0 ≤ q)) (F0 m 14 ls []) := by
  have hx := E.1
  have hb := E.2.1
  have hown := E.2.2.2.1
  have hT := E.2.2.2.2.2.2.2.1
  unfold fX6_isWithin_b14 at hf
  refine lv_iconst (v := 0) hx hb dX6_isWithin_14 (by decide) ?_
  exact bX6_isWithin_15 E hR hcc Z M (0 : Int32) _ _ _ _ hf hH (lv_sub hl [] rfl)
def fX6_isWithin (v0 : Int32) (v1 : Int32) (v2 : Int32) : Option (Int32) :=
  if v0 < v1 then
    fX6_isWithin_b14 
  else
    if v2 < v0 then
      fX6_isWithin_b14 
    else
      fX6_isWithin_b15 (1 : Int32)
set_option maxHeartbeats 4000000 in
set_option maxRecDepth 100000 in
theorem bX6_isWithin_0 {cells slots : Nat} (E : q_E p s m meth c cX6_isWithin 3 RX6 (some .boolean) "isWithin" D cA) (hR : 0 ≤ R.frames ∧ 0 ≤ R.locals) (hcc : cells ≤ R.cells ∧ slots ≤ R.slots) (Z : q_Z) (M : q_C) (v0 : Int32) (v1 : Int32) (v2 : Int32) (H : Heap) (locs : List Loc) (ls : Array Slot) (r : Int32) (hf : fX6_isWithin v0 v1 v2 = some r) (hH : q_Hh D cA z0 s Z M H locs) (hl : lv_has ls 3 [(0, .int v0), (1, .int v1), (2, .int v2)])  : W p l e R s m args below meth c H locs cells slots (MQ below (q_Q D cA z0 (some (.int r)) Z M) args s cells slots (fun q => z0 ≤ q)) (F0 m 0 ls []) := by
  have hx := E.1
  have hb := E.2.1
  have hown := E.2.2.2.1
  have hT := E.2.2.2.2.2.2.2.1
  unfold fX6_isWithin at hf
  refine lv_iload_n hx hb dX6_isWithin_0 rfl (lv_at hl 0 rfl) ?_
  refine lv_iload_n hx hb dX6_isWithin_1 rfl (lv_at hl 1 rfl) ?_
  refine lv_icmp_lt (tgt := 14) hx hb dX6_isWithin_2 (by decide) (fun cc_3 => ?_) (fun cc_3 => ?_)
  · replace hf := q_ifT cc_3 hf
    clear cc_3
    exact bX6_isWithin_14 E hR hcc Z M _ _ _ _ hf hH (lv_sub hl [] rfl)
  · replace hf := q_ifF cc_3 hf
    clear cc_3
    refine lv_iload_n hx hb dX6_isWithin_5 rfl (lv_at hl 0 rfl) ?_
    refine lv_iload_n hx hb dX6_isWithin_6 rfl (lv_at hl 2 rfl) ?_
    refine lv_icmp_gt (tgt := 14) hx hb dX6_isWithin_7 (by decide) (fun cc_2 => ?_) (fun cc_2 => ?_)
    · replace hf := q_ifT cc_2 hf
      clear cc_2
      exact bX6_isWithin_14 E hR hcc Z M _ _ _ _ hf hH (lv_sub hl [] rfl)
    · replace hf := q_ifF cc_2 hf
      clear cc_2
      refine lv_iconst (v := 1) hx hb dX6_isWithin_10 (by decide) ?_
      refine lv_goto (tgt := 15) hx hb dX6_isWithin_11 (by decide) ?_
      exact bX6_isWithin_15 E hR hcc Z M (1 : Int32) _ _ _ _ hf hH (lv_sub hl [] rfl)
set_option maxRecDepth 100000 in
theorem tX6_isWithin (l : Launch) (D : va_G) (cA : Nat → ClassId) (z0 : Nat) (Z : q_Z) (M : q_C) (v0 : Int32) (v1 : Int32) (v2 : Int32) (r : Int32) (hf : fX6_isWithin v0 v1 v2 = some r) : q_Ct l D cA z0 yX6_isWithin cX6_isWithin 3 (some .boolean) 0 0 [.int v0, .int v1, .int v2] Z M (some (.int r)) Z M 0 0 := by
  (refine q_start (plainFor_of_name (by decide)) (Nat.le_of_ble_eq_true rfl) (fun p e s m below meth c H ls E hH hl => ?_); exact bX6_isWithin_0 E ⟨Nat.le_refl _, Nat.le_refl _⟩ ⟨Nat.le_refl _, Nat.le_refl _⟩ Z M _ _ _ H [] ls r hf hH hl)
def fX6_round_b26 (h : Nat) (Z : q_Z) (M : q_C) : Option (Int32 × q_C) :=
  some ((-1 : Int32), M)
set_option maxHeartbeats 4000000 in
set_option maxRecDepth 100000 in
theorem bX6_round_26 {cells slots : Nat} (E : q_E p s m meth c cX6_round 4 RX6 (some .int) "round" D cA) (hR : 1 ≤ R.frames ∧ 22 ≤ R.locals) (hcc : cells ≤ R.cells ∧ slots ≤ R.slots) (h : Nat) (Z : q_Z) (M : q_C) (H : Heap) (locs : List Loc) (ls : Array Slot) (r : Int32) (M' : q_C) (hf : fX6_round_b26 h Z M = some (r, M')) (hH : q_Hh D cA z0 s Z M H locs) (hl : lv_has ls 4 [])  : W p l e R s m args below meth c H locs cells slots (MQ below (q_Q D cA z0 (some (.int r)) Z M') args s cells slots (fun q => z0 ≤ q)) (F0 m 26 ls []) := by
  have hx := E.1
  have hb := E.2.1
  have hown := E.2.2.2.1
  have hT := E.2.2.2.2.2.2.2.1
  unfold fX6_round_b26 at hf
  refine lv_iconst (v := -1) hx hb dX6_round_26 (by decide) ?_
  cases hf
  exact q_iret E hH dX6_round_27
def fX6_round_b59 (h : Nat) (s0 : Int32) (Z : q_Z) (M : q_C) : Option (Int32 × q_C) :=
  some (s0, M)
set_option maxHeartbeats 4000000 in
set_option maxRecDepth 100000 in
theorem bX6_round_59 {cells slots : Nat} (E : q_E p s m meth c cX6_round 4 RX6 (some .int) "round" D cA) (hR : 1 ≤ R.frames ∧ 22 ≤ R.locals) (hcc : cells ≤ R.cells ∧ slots ≤ R.slots) (h : Nat) (s0 : Int32) (Z : q_Z) (M : q_C) (H : Heap) (locs : List Loc) (ls : Array Slot) (r : Int32) (M' : q_C) (hf : fX6_round_b59 h s0 Z M = some (r, M')) (hH : q_Hh D cA z0 s Z M H locs) (hl : lv_has ls 4 [])  : W p l e R s m args below meth c H locs cells slots (MQ below (q_Q D cA z0 (some (.int r)) Z M') args s cells slots (fun q => z0 ≤ q)) (F0 m 59 ls [.int s0]) := by
  have hx := E.1
  have hb := E.2.1
  have hown := E.2.2.2.1
  have hT := E.2.2.2.2.2.2.2.1
  unfold fX6_round_b59 at hf
  cases hf
  exact q_iret E hH dX6_round_59
def fX6_round (h : Nat) (v1 : Int32) (v2 : Int32) (v3 : Int32) (Z : q_Z) (M : q_C) : Option (Int32 × q_C) :=
  Option.bind (fX6_isWithin v2 (-20000 : Int32) (20000 : Int32)) fun r_1 =>
  if r_1 = 0 then
    fX6_round_b26 h Z M
  else
    Option.bind (fX6_isWithin v3 (-20000 : Int32) (20000 : Int32)) fun r_3 =>
    if r_3 = 0 then
      fX6_round_b26 h Z M
    else
      if v1 = 0 then
        q_gd (zK Z h == 16) <|
        Option.bind (gR M h 0) fun a_6 =>
        q_gd (zK Z a_6 == 13) <|
        Option.bind (gR M a_6 0) fun a_9 =>
        q_gd (zK Z a_9 == 14) <|
        q_b2 (fX4_grow a_9 v2 v3 Z M) fun r_12 M_14 =>
        fX6_round_b59 h r_12 Z M_14
      else
        q_gd (zK Z h == 16) <|
        Option.bind (gR M h 0) fun a_16 =>
        q_gd (zK Z a_16 == 13) <|
        Option.bind (gR M a_16 1) fun a_19 =>
        q_gd (zK Z a_19 == 14) <|
        q_b2 (fX4_grow a_19 v2 v3 Z M) fun r_22 M_24 =>
        fX6_round_b59 h r_22 Z M_24
set_option maxHeartbeats 4000000 in
set_option maxRecDepth 100000 in
theorem bX6_round_0 {cells slots : Nat} (E : q_E p s m meth c cX6_round 4 RX6 (some .int) "round" D cA) (hR : 1 ≤ R.frames ∧ 22 ≤ R.locals) (hcc : cells ≤ R.cells ∧ slots ≤ R.slots) (h : Nat) (v1 : Int32) (v2 : Int32) (v3 : Int32) (Z : q_Z) (M : q_C) (H : Heap) (locs : List Loc) (ls : Array Slot) (r : Int32) (M' : q_C) (hf : fX6_round h v1 v2 v3 Z M = some (r, M')) (hH : q_Hh D cA z0 s Z M H locs) (hl : lv_has ls 4 [(0, .ref h), (1, .int v1), (2, .int v2), (3, .int v3)])  : W p l e R s m args below meth c H locs cells slots (MQ below (q_Q D cA z0 (some (.int r)) Z M') args s cells slots (fun q => z0 ≤ q)) (F0 m 0 ls []) := by
  have hx := E.1
  have hb := E.2.1
  have hown := E.2.2.2.1
  have hT := E.2.2.2.2.2.2.2.1
  unfold fX6_round at hf
  refine lv_iload_n hx hb dX6_round_0 rfl (lv_at hl 2 rfl) ?_
  refine lv_sipush (v := -20000) hx hb dX6_round_1 (by decide) ?_
  refine lv_sipush (v := 20000) hx hb dX6_round_4 (by decide) ?_
  obtain ⟨r_1, hw_2, hf⟩ := q_biE hf
  refine q_cS (As := [.int v2, .int (-20000 : Int32), .int (20000 : Int32)]) (rest := []) (st1 := [.int r_1]) E hH (tX6_isWithin l D cA z0 Z M v2 (-20000 : Int32) (20000 : Int32) r_1 hw_2) mw_X6_isWithin mi_X6_isWithin kM_X6_76 hcc rfl rfl rfl hl.1 rfl rfl (Nat.le_of_ble_eq_true rfl) ⟨Nat.le_trans (by decide) hR.1, Nat.le_trans (by decide) hR.2⟩ dX6_round_7 (fun H locs hH => ?_)
  refine lv_if_eq (tgt := 26) hx hb dX6_round_10 (by decide) (fun cc_27 => ?_) (fun cc_27 => ?_)
  · replace hf := q_ifT cc_27 hf
    clear cc_27
    exact bX6_round_26 E hR hcc h Z M _ _ _ _ _ hf hH (lv_sub hl [] rfl)
  · replace hf := q_ifF cc_27 hf
    clear cc_27
    refine lv_iload_n hx hb dX6_round_13 rfl (lv_at hl 3 rfl) ?_
    refine lv_sipush (v := -20000) hx hb dX6_round_14 (by decide) ?_
    refine lv_sipush (v := 20000) hx hb dX6_round_17 (by decide) ?_
    obtain ⟨r_3, hw_4, hf⟩ := q_biE hf
    refine q_cS (As := [.int v3, .int (-20000 : Int32), .int (20000 : Int32)]) (rest := []) (st1 := [.int r_3]) E hH (tX6_isWithin l D cA z0 Z M v3 (-20000 : Int32) (20000 : Int32) r_3 hw_4) mw_X6_isWithin mi_X6_isWithin kM_X6_76 hcc rfl rfl rfl hl.1 rfl rfl (Nat.le_of_ble_eq_true rfl) ⟨Nat.le_trans (by decide) hR.1, Nat.le_trans (by decide) hR.2⟩ dX6_round_20 (fun H locs hH => ?_)
    refine lv_if_ne (tgt := 28) hx hb dX6_round_23 (by decide) (fun cc_26 => ?_) (fun cc_26 => ?_)
    · replace hf := q_ifF cc_26 hf
      clear cc_26
      refine lv_iload_n hx hb dX6_round_28 rfl (lv_at hl 1 rfl) ?_
      refine lv_if_eq (tgt := 47) hx hb dX6_round_29 (by decide) (fun cc_25 => ?_) (fun cc_25 => ?_)
      · replace hf := q_ifT cc_25 hf
        clear cc_25
        refine lv_aload_n hx hb dX6_round_47 rfl (lv_at hl 0 rfl) ?_
        obtain ⟨hk_5, hf⟩ := q_gdE hf
        have hk_5 := q_keq hk_5
        refine q_getR E hH (ci := 6) rfl 0 (by decide) kF_X6_12 (fun _ _ _ => rfl) hk_5 dX6_round_48 ?_
        obtain ⟨a_6, he_7, hf⟩ := q_biE hf
        rw [he_7]
        obtain ⟨hk_8, hf⟩ := q_gdE hf
        have hk_8 := q_keq hk_8
        refine q_getRN E hH (ci := 3) rfl 0 (by decide) kF_X6_90 (fun _ _ _ => rfl) hk_8 dX6_round_51 ?_
        obtain ⟨a_9, he_10, hf⟩ := q_biE hf
        rw [he_10]
        refine lv_iload_n hx hb dX6_round_54 rfl (lv_at hl 2 rfl) ?_
        refine lv_iload_n hx hb dX6_round_55 rfl (lv_at hl 3 rfl) ?_
        obtain ⟨hk_11, hf⟩ := q_gdE hf
        have hk_11 := q_keq hk_11
        obtain ⟨r_12, M_14, hw_13, hf⟩ := q_b2E hf
        refine q_cV (As := [.int v2, .int v3]) (rest := []) (st1 := [.int r_12]) E hH (tX4_grow l D cA z0 a_9 v2 v3 Z M r_12 M_14 hw_13) mw_X4_grow mi_X4_grow (ci := 4) rfl ms_X4_grow kM_X6_84 hk_11 hcc rfl rfl rfl hl.1 rfl rfl (Nat.le_of_ble_eq_true rfl) ⟨Nat.le_trans (by decide) hR.1, Nat.le_trans (by decide) hR.2⟩ dX6_round_56 (fun H locs hH => ?_)
        exact bX6_round_59 E hR hcc h r_12 Z M_14 _ _ _ _ _ hf hH (lv_sub hl [] rfl)
      · replace hf := q_ifF cc_25 hf
        clear cc_25
        refine lv_aload_n hx hb dX6_round_32 rfl (lv_at hl 0 rfl) ?_
        obtain ⟨hk_15, hf⟩ := q_gdE hf
        have hk_15 := q_keq hk_15
        refine q_getR E hH (ci := 6) rfl 0 (by decide) kF_X6_12 (fun _ _ _ => rfl) hk_15 dX6_round_33 ?_
        obtain ⟨a_16, he_17, hf⟩ := q_biE hf
        rw [he_17]
        obtain ⟨hk_18, hf⟩ := q_gdE hf
        have hk_18 := q_keq hk_18
        refine q_getRN E hH (ci := 3) rfl 1 (by decide) kF_X6_80 (fun _ _ _ => rfl) hk_18 dX6_round_36 ?_
        obtain ⟨a_19, he_20, hf⟩ := q_biE hf
        rw [he_20]
        refine lv_iload_n hx hb dX6_round_39 rfl (lv_at hl 2 rfl) ?_
        refine lv_iload_n hx hb dX6_round_40 rfl (lv_at hl 3 rfl) ?_
        obtain ⟨hk_21, hf⟩ := q_gdE hf
        have hk_21 := q_keq hk_21
        obtain ⟨r_22, M_24, hw_23, hf⟩ := q_b2E hf
        refine q_cV (As := [.int v2, .int v3]) (rest := []) (st1 := [.int r_22]) E hH (tX4_grow l D cA z0 a_19 v2 v3 Z M r_22 M_24 hw_23) mw_X4_grow mi_X4_grow (ci := 4) rfl ms_X4_grow kM_X6_84 hk_21 hcc rfl rfl rfl hl.1 rfl rfl (Nat.le_of_ble_eq_true rfl) ⟨Nat.le_trans (by decide) hR.1, Nat.le_trans (by decide) hR.2⟩ dX6_round_41 (fun H locs hH => ?_)
        refine lv_goto (tgt := 59) hx hb dX6_round_44 (by decide) ?_
        exact bX6_round_59 E hR hcc h r_22 Z M_24 _ _ _ _ _ hf hH (lv_sub hl [] rfl)
    · replace hf := q_ifT cc_26 hf
      clear cc_26
      exact bX6_round_26 E hR hcc h Z M _ _ _ _ _ hf hH (lv_sub hl [] rfl)
set_option maxRecDepth 100000 in
theorem tX6_round (l : Launch) (D : va_G) (cA : Nat → ClassId) (z0 : Nat) (h : Nat) (v1 : Int32) (v2 : Int32) (v3 : Int32) (Z : q_Z) (M : q_C) (r : Int32) (M' : q_C) (hf : fX6_round h v1 v2 v3 Z M = some (r, M')) : q_Ct l D cA z0 yX6_round cX6_round 4 (some .int) 1 22 [.ref h, .int v1, .int v2, .int v3] Z M (some (.int r)) Z M' 0 0 := by
  (refine q_start (plainFor_of_name (by decide)) (Nat.le_of_ble_eq_true rfl) (fun p e s m below meth c H ls E hH hl => ?_); exact bX6_round_0 E ⟨Nat.le_refl _, Nat.le_refl _⟩ ⟨Nat.le_refl _, Nat.le_refl _⟩ h _ _ _ Z M H [] ls r M' hf hH hl)
def fX6_masses_b20 (h : Nat) (Z : q_Z) (M : q_C) : Option (Int32 × q_C) :=
  q_gd (decide ((0 : Int32) = 0) || decide ((0 : Int32) = 1)) <|
  some ((0 : Int32), M)
set_option maxHeartbeats 4000000 in
set_option maxRecDepth 100000 in
theorem bX6_masses_20 {cells slots : Nat} (E : q_E p s m meth c cX6_masses 3 RX6 (some .boolean) "masses" D cA) (hR : 1 ≤ R.frames ∧ 22 ≤ R.locals) (hcc : cells ≤ R.cells ∧ slots ≤ R.slots) (h : Nat) (Z : q_Z) (M : q_C) (H : Heap) (locs : List Loc) (ls : Array Slot) (r : Int32) (M' : q_C) (hf : fX6_masses_b20 h Z M = some (r, M')) (hH : q_Hh D cA z0 s Z M H locs) (hl : lv_has ls 3 [])  : W p l e R s m args below meth c H locs cells slots (MQ below (q_Q D cA z0 (some (.int r)) Z M') args s cells slots (fun q => z0 ≤ q)) (F0 m 20 ls []) := by
  have hx := E.1
  have hb := E.2.1
  have hown := E.2.2.2.1
  have hT := E.2.2.2.2.2.2.2.1
  unfold fX6_masses_b20 at hf
  refine lv_iconst (v := 0) hx hb dX6_masses_20 (by decide) ?_
  obtain ⟨hz_3, hf⟩ := q_gdE hf
  cases hf
  exact q_zret E hH hz_3 dX6_masses_21
def fX6_masses (h : Nat) (v1 : Int32) (v2 : Int32) (Z : q_Z) (M : q_C) : Option (Int32 × q_C) :=
  Option.bind (fX6_isWithin v1 (0 : Int32) (1000000000 : Int32)) fun r_1 =>
  if r_1 = 0 then
    fX6_masses_b20 h Z M
  else
    Option.bind (fX6_isWithin v2 (0 : Int32) (1000000000 : Int32)) fun r_4 =>
    if r_4 = 0 then
      fX6_masses_b20 h Z M
    else
      q_gd (zK Z h == 16) <|
      Option.bind (gR M h 0) fun a_7 =>
      q_gd (zK Z a_7 == 13) <|
      q_nm (sJ M a_7 2 v1.toInt64) fun M_10 =>
      Option.bind (gR M_10 h 0) fun a_11 =>
      q_gd (zK Z a_11 == 13) <|
      q_nm (sJ M_10 a_11 3 v2.toInt64) fun M_14 =>
      q_gd (decide ((1 : Int32) = 0) || decide ((1 : Int32) = 1)) <|
      some ((1 : Int32), M_14)
set_option maxHeartbeats 4000000 in
set_option maxRecDepth 100000 in
theorem bX6_masses_0 {cells slots : Nat} (E : q_E p s m meth c cX6_masses 3 RX6 (some .boolean) "masses" D cA) (hR : 1 ≤ R.frames ∧ 22 ≤ R.locals) (hcc : cells ≤ R.cells ∧ slots ≤ R.slots) (h : Nat) (v1 : Int32) (v2 : Int32) (Z : q_Z) (M : q_C) (H : Heap) (locs : List Loc) (ls : Array Slot) (r : Int32) (M' : q_C) (hf : fX6_masses h v1 v2 Z M = some (r, M')) (hH : q_Hh D cA z0 s Z M H locs) (hl : lv_has ls 3 [(0, .ref h), (1, .int v1), (2, .int v2)])  : W p l e R s m args below meth c H locs cells slots (MQ below (q_Q D cA z0 (some (.int r)) Z M') args s cells slots (fun q => z0 ≤ q)) (F0 m 0 ls []) := by
  have hx := E.1
  have hb := E.2.1
  have hown := E.2.2.2.1
  have hT := E.2.2.2.2.2.2.2.1
  unfold fX6_masses at hf
  refine lv_iload_n hx hb dX6_masses_0 rfl (lv_at hl 1 rfl) ?_
  refine lv_iconst (v := 0) hx hb dX6_masses_1 (by decide) ?_
  refine lv_ldc hx hb hown (hT.1 _ _ kK_X6_93) dX6_masses_2 ?_
  obtain ⟨r_1, hw_2, hf⟩ := q_biE hf
  refine q_cS (As := [.int v1, .int (0 : Int32), .int (1000000000 : Int32)]) (rest := []) (st1 := [.int r_1]) E hH (tX6_isWithin l D cA z0 Z M v1 (0 : Int32) (1000000000 : Int32) r_1 hw_2) mw_X6_isWithin mi_X6_isWithin kM_X6_76 hcc rfl rfl rfl hl.1 rfl rfl (Nat.le_of_ble_eq_true rfl) ⟨Nat.le_trans (by decide) hR.1, Nat.le_trans (by decide) hR.2⟩ dX6_masses_4 (fun H locs hH => ?_)
  refine lv_if_eq (tgt := 20) hx hb dX6_masses_7 (by decide) (fun cc_17 => ?_) (fun cc_17 => ?_)
  · replace hf := q_ifT cc_17 hf
    clear cc_17
    exact bX6_masses_20 E hR hcc h Z M _ _ _ _ _ hf hH (lv_sub hl [] rfl)
  · replace hf := q_ifF cc_17 hf
    clear cc_17
    refine lv_iload_n hx hb dX6_masses_10 rfl (lv_at hl 2 rfl) ?_
    refine lv_iconst (v := 0) hx hb dX6_masses_11 (by decide) ?_
    refine lv_ldc hx hb hown (hT.1 _ _ kK_X6_93) dX6_masses_12 ?_
    obtain ⟨r_4, hw_5, hf⟩ := q_biE hf
    refine q_cS (As := [.int v2, .int (0 : Int32), .int (1000000000 : Int32)]) (rest := []) (st1 := [.int r_4]) E hH (tX6_isWithin l D cA z0 Z M v2 (0 : Int32) (1000000000 : Int32) r_4 hw_5) mw_X6_isWithin mi_X6_isWithin kM_X6_76 hcc rfl rfl rfl hl.1 rfl rfl (Nat.le_of_ble_eq_true rfl) ⟨Nat.le_trans (by decide) hR.1, Nat.le_trans (by decide) hR.2⟩ dX6_masses_14 (fun H locs hH => ?_)
    refine lv_if_ne (tgt := 22) hx hb dX6_masses_17 (by decide) (fun cc_16 => ?_) (fun cc_16 => ?_)
    · replace hf := q_ifF cc_16 hf
      clear cc_16
      refine lv_aload_n hx hb dX6_masses_22 rfl (lv_at hl 0 rfl) ?_
      obtain ⟨hk_6, hf⟩ := q_gdE hf
      have hk_6 := q_keq hk_6
      refine q_getR E hH (ci := 6) rfl 0 (by decide) kF_X6_12 (fun _ _ _ => rfl) hk_6 dX6_masses_23 ?_
      obtain ⟨a_7, he_8, hf⟩ := q_biE hf
      rw [he_8]
      refine lv_iload_n hx hb dX6_masses_26 rfl (lv_at hl 1 rfl) ?_
      refine lv_i2l hx hb dX6_masses_27 rfl ?_
      obtain ⟨hk_9, hf⟩ := q_gdE hf
      have hk_9 := q_keq hk_9
      refine q_putJN E hH (ci := 3) rfl 2 (by decide) kF_X6_94 rfl (fun _ _ _ => rfl) (x := v1.toInt64) hk_9 rfl rfl dX6_masses_28 hf (fun M_10 H locs hH hf => ?_)
      refine lv_aload_n hx hb dX6_masses_31 rfl (lv_at hl 0 rfl) ?_
      refine q_getR E hH (ci := 6) rfl 0 (by decide) kF_X6_12 (fun _ _ _ => rfl) hk_6 dX6_masses_32 ?_
      obtain ⟨a_11, he_12, hf⟩ := q_biE hf
      rw [he_12]
      refine lv_iload_n hx hb dX6_masses_35 rfl (lv_at hl 2 rfl) ?_
      refine lv_i2l hx hb dX6_masses_36 rfl ?_
      obtain ⟨hk_13, hf⟩ := q_gdE hf
      have hk_13 := q_keq hk_13
      refine q_putJN E hH (ci := 3) rfl 3 (by decide) kF_X6_98 rfl (fun _ _ _ => rfl) (x := v2.toInt64) hk_13 rfl rfl dX6_masses_37 hf (fun M_14 H locs hH hf => ?_)
      refine lv_iconst (v := 1) hx hb dX6_masses_40 (by decide) ?_
      obtain ⟨hz_15, hf⟩ := q_gdE hf
      cases hf
      exact q_zret E hH hz_15 dX6_masses_41
    · replace hf := q_ifT cc_16 hf
      clear cc_16
      exact bX6_masses_20 E hR hcc h Z M _ _ _ _ _ hf hH (lv_sub hl [] rfl)
set_option maxRecDepth 100000 in
theorem tX6_masses (l : Launch) (D : va_G) (cA : Nat → ClassId) (z0 : Nat) (h : Nat) (v1 : Int32) (v2 : Int32) (Z : q_Z) (M : q_C) (r : Int32) (M' : q_C) (hf : fX6_masses h v1 v2 Z M = some (r, M')) : q_Ct l D cA z0 yX6_masses cX6_masses 3 (some .boolean) 1 22 [.ref h, .int v1, .int v2] Z M (some (.int r)) Z M' 0 0 := by
  (refine q_start (plainFor_of_name (by decide)) (Nat.le_of_ble_eq_true rfl) (fun p e s m below meth c H ls E hH hl => ?_); exact bX6_masses_0 E ⟨Nat.le_refl _, Nat.le_refl _⟩ ⟨Nat.le_refl _, Nat.le_refl _⟩ h _ _ Z M H [] ls r M' hf hH hl)
def fX6_isStep (v0 : Int32) : Option (Int32) :=
  Option.bind (fX6_isWithin v0 (-300 : Int32) (300 : Int32)) fun r_1 =>
  q_gd (decide (r_1 = 0) || decide (r_1 = 1)) <|
  some r_1
set_option maxHeartbeats 4000000 in
set_option maxRecDepth 100000 in
theorem bX6_isStep_0 {cells slots : Nat} (E : q_E p s m meth c cX6_isStep 1 RX6 (some .boolean) "isStep" D cA) (hR : 1 ≤ R.frames ∧ 22 ≤ R.locals) (hcc : cells ≤ R.cells ∧ slots ≤ R.slots) (Z : q_Z) (M : q_C) (v0 : Int32) (H : Heap) (locs : List Loc) (ls : Array Slot) (r : Int32) (hf : fX6_isStep v0 = some r) (hH : q_Hh D cA z0 s Z M H locs) (hl : lv_has ls 1 [(0, .int v0)])  : W p l e R s m args below meth c H locs cells slots (MQ below (q_Q D cA z0 (some (.int r)) Z M) args s cells slots (fun q => z0 ≤ q)) (F0 m 0 ls []) := by
  have hx := E.1
  have hb := E.2.1
  have hown := E.2.2.2.1
  have hT := E.2.2.2.2.2.2.2.1
  unfold fX6_isStep at hf
  refine lv_iload_n hx hb dX6_isStep_0 rfl (lv_at hl 0 rfl) ?_
  refine lv_sipush (v := -300) hx hb dX6_isStep_1 (by decide) ?_
  refine lv_sipush (v := 300) hx hb dX6_isStep_4 (by decide) ?_
  obtain ⟨r_1, hw_2, hf⟩ := q_biE hf
  refine q_cS (As := [.int v0, .int (-300 : Int32), .int (300 : Int32)]) (rest := []) (st1 := [.int r_1]) E hH (tX6_isWithin l D cA z0 Z M v0 (-300 : Int32) (300 : Int32) r_1 hw_2) mw_X6_isWithin mi_X6_isWithin kM_X6_76 hcc rfl rfl rfl hl.1 rfl rfl (Nat.le_of_ble_eq_true rfl) ⟨Nat.le_trans (by decide) hR.1, Nat.le_trans (by decide) hR.2⟩ dX6_isStep_7 (fun H locs hH => ?_)
  obtain ⟨hz_3, hf⟩ := q_gdE hf
  cases hf
  exact q_zret E hH hz_3 dX6_isStep_10
set_option maxRecDepth 100000 in
theorem tX6_isStep (l : Launch) (D : va_G) (cA : Nat → ClassId) (z0 : Nat) (Z : q_Z) (M : q_C) (v0 : Int32) (r : Int32) (hf : fX6_isStep v0 = some r) : q_Ct l D cA z0 yX6_isStep cX6_isStep 1 (some .boolean) 1 22 [.int v0] Z M (some (.int r)) Z M 0 0 := by
  (refine q_start (plainFor_of_name (by decide)) (Nat.le_of_ble_eq_true rfl) (fun p e s m below meth c H ls E hH hl => ?_); exact bX6_isStep_0 E ⟨Nat.le_refl _, Nat.le_refl _⟩ ⟨Nat.le_refl _, Nat.le_refl _⟩ Z M _ H [] ls r hf hH hl)
def fX6_isDirection_b39 (s0 : Int32) : Option (Int32) :=
  q_gd (decide (s0 = 0) || decide (s0 = 1)) <|
  some s0
set_option maxHeartbeats 4000000 in
set_option maxRecDepth 100000 in
theorem bX6_isDirection_39 {cells slots : Nat} (E : q_E p s m meth c cX6_isDirection 2 RX6 (some .boolean) "isDirection" D cA) (hR : 1 ≤ R.frames ∧ 22 ≤ R.locals) (hcc : cells ≤ R.cells ∧ slots ≤ R.slots) (Z : q_Z) (M : q_C) (s0 : Int32) (H : Heap) (locs : List Loc) (ls : Array Slot) (r : Int32) (hf : fX6_isDirection_b39 s0 = some r) (hH : q_Hh D cA z0 s Z M H locs) (hl : lv_has ls 2 [])  : W p l e R s m args below meth c H locs cells slots (MQ below (q_Q D cA z0 (some (.int r)) Z M) args s cells slots (fun q => z0 ≤ q)) (F0 m 39 ls [.int s0]) := by
  have hx := E.1
  have hb := E.2.1
  have hown := E.2.2.2.1
  have hT := E.2.2.2.2.2.2.2.1
  unfold fX6_isDirection_b39 at hf
  obtain ⟨hz_3, hf⟩ := q_gdE hf
  cases hf
  exact q_zret E hH hz_3 dX6_isDirection_39
def fX6_isDirection_b38  : Option (Int32) :=
  fX6_isDirection_b39 (0 : Int32)
set_option maxHeartbeats 4000000 in
set_option maxRecDepth 100000 in
theorem bX6_isDirection_38 {cells slots : Nat} (E : q_E p s m meth c cX6_isDirection 2 RX6 (some .boolean) "isDirection" D cA) (hR : 1 ≤ R.frames ∧ 22 ≤ R.locals) (hcc : cells ≤ R.cells ∧ slots ≤ R.slots) (Z : q_Z) (M : q_C) (H : Heap) (locs : List Loc) (ls : Array Slot) (r : Int32) (hf : fX6_isDirection_b38 = some r) (hH : q_Hh D cA z0 s Z M H locs) (hl : lv_has ls 2 [])  : W p l e R s m args below meth c H locs cells slots (MQ below (q_Q D cA z0 (some (.int r)) Z M) args s cells slots (fun q => z0 ≤ q)) (F0 m 38 ls []) := by
  have hx := E.1
  have hb := E.2.1
  have hown := E.2.2.2.1
  have hT := E.2.2.2.2.2.2.2.1
  unfold fX6_isDirection_b38 at hf
  refine lv_iconst (v := 0) hx hb dX6_isDirection_38 (by decide) ?_
  exact bX6_isDirection_39 E hR hcc Z M (0 : Int32) _ _ _ _ hf hH (lv_sub hl [] rfl)
def fX6_isDirection_b34  : Option (Int32) :=
  fX6_isDirection_b39 (1 : Int32)
set_option maxHeartbeats 4000000 in
set_option maxRecDepth 100000 in
theorem bX6_isDirection_34 {cells slots : Nat} (E : q_E p s m meth c cX6_isDirection 2 RX6 (some .boolean) "isDirection" D cA) (hR : 1 ≤ R.frames ∧ 22 ≤ R.locals) (hcc : cells ≤ R.cells ∧ slots ≤ R.slots) (Z : q_Z) (M : q_C) (H : Heap) (locs : List Loc) (ls : Array Slot) (r : Int32) (hf : fX6_isDirection_b34 = some r) (hH : q_Hh D cA z0 s Z M H locs) (hl : lv_has ls 2 [])  : W p l e R s m args below meth c H locs cells slots (MQ below (q_Q D cA z0 (some (.int r)) Z M) args s cells slots (fun q => z0 ≤ q)) (F0 m 34 ls []) := by
  have hx := E.1
  have hb := E.2.1
  have hown := E.2.2.2.1
  have hT := E.2.2.2.2.2.2.2.1
  unfold fX6_isDirection_b34 at hf
  refine lv_iconst (v := 1) hx hb dX6_isDirection_34 (by decide) ?_
  refine lv_goto (tgt := 39) hx hb dX6_isDirection_35 (by decide) ?_
  exact bX6_isDirection_39 E hR hcc Z M (1 : Int32) _ _ _ _ hf hH (lv_sub hl [] rfl)
def fX6_isDirection (v0 : Int32) (v1 : Int32) : Option (Int32) :=
  Option.bind (fX6_isWithin v0 (-1000 : Int32) (1000 : Int32)) fun r_1 =>
  if r_1 = 0 then
    fX6_isDirection_b38 
  else
    Option.bind (fX6_isWithin v1 (-1000 : Int32) (1000 : Int32)) fun r_4 =>
    if r_4 = 0 then
      fX6_isDirection_b38 
    else
      if v0 = 0 then
        if v1 = 0 then
          fX6_isDirection_b38 
        else
          fX6_isDirection_b34 
      else
        fX6_isDirection_b34 
set_option maxHeartbeats 4000000 in
set_option maxRecDepth 100000 in
theorem bX6_isDirection_0 {cells slots : Nat} (E : q_E p s m meth c cX6_isDirection 2 RX6 (some .boolean) "isDirection" D cA) (hR : 1 ≤ R.frames ∧ 22 ≤ R.locals) (hcc : cells ≤ R.cells ∧ slots ≤ R.slots) (Z : q_Z) (M : q_C) (v0 : Int32) (v1 : Int32) (H : Heap) (locs : List Loc) (ls : Array Slot) (r : Int32) (hf : fX6_isDirection v0 v1 = some r) (hH : q_Hh D cA z0 s Z M H locs) (hl : lv_has ls 2 [(0, .int v0), (1, .int v1)])  : W p l e R s m args below meth c H locs cells slots (MQ below (q_Q D cA z0 (some (.int r)) Z M) args s cells slots (fun q => z0 ≤ q)) (F0 m 0 ls []) := by
  have hx := E.1
  have hb := E.2.1
  have hown := E.2.2.2.1
  have hT := E.2.2.2.2.2.2.2.1
  unfold fX6_isDirection at hf
  refine lv_iload_n hx hb dX6_isDirection_0 rfl (lv_at hl 0 rfl) ?_
  refine lv_sipush (v := -1000) hx hb dX6_isDirection_1 (by decide) ?_
  refine lv_sipush (v := 1000) hx hb dX6_isDirection_4 (by decide) ?_
  obtain ⟨r_1, hw_2, hf⟩ := q_biE hf
  refine q_cS (As := [.int v0, .int (-1000 : Int32), .int (1000 : Int32)]) (rest := []) (st1 := [.int r_1]) E hH (tX6_isWithin l D cA z0 Z M v0 (-1000 : Int32) (1000 : Int32) r_1 hw_2) mw_X6_isWithin mi_X6_isWithin kM_X6_76 hcc rfl rfl rfl hl.1 rfl rfl (Nat.le_of_ble_eq_true rfl) ⟨Nat.le_trans (by decide) hR.1, Nat.le_trans (by decide) hR.2⟩ dX6_isDirection_7 (fun H locs hH => ?_)
  refine lv_if_eq (tgt := 38) hx hb dX6_isDirection_10 (by decide) (fun cc_9 => ?_) (fun cc_9 => ?_)
  · replace hf := q_ifT cc_9 hf
    clear cc_9
    exact bX6_isDirection_38 E hR hcc Z M _ _ _ _ hf hH (lv_sub hl [] rfl)
  · replace hf := q_ifF cc_9 hf
    clear cc_9
    refine lv_iload_n hx hb dX6_isDirection_13 rfl (lv_at hl 1 rfl) ?_
    refine lv_sipush (v := -1000) hx hb dX6_isDirection_14 (by decide) ?_
    refine lv_sipush (v := 1000) hx hb dX6_isDirection_17 (by decide) ?_
    obtain ⟨r_4, hw_5, hf⟩ := q_biE hf
    refine q_cS (As := [.int v1, .int (-1000 : Int32), .int (1000 : Int32)]) (rest := []) (st1 := [.int r_4]) E hH (tX6_isWithin l D cA z0 Z M v1 (-1000 : Int32) (1000 : Int32) r_4 hw_5) mw_X6_isWithin mi_X6_isWithin kM_X6_76 hcc rfl rfl rfl hl.1 rfl rfl (Nat.le_of_ble_eq_true rfl) ⟨Nat.le_trans (by decide) hR.1, Nat.le_trans (by decide) hR.2⟩ dX6_isDirection_20 (fun H locs hH => ?_)
    refine lv_if_eq (tgt := 38) hx hb dX6_isDirection_23 (by decide) (fun cc_8 => ?_) (fun cc_8 => ?_)
    · replace hf := q_ifT cc_8 hf
      clear cc_8
      exact bX6_isDirection_38 E hR hcc Z M _ _ _ _ hf hH (lv_sub hl [] rfl)
    · replace hf := q_ifF cc_8 hf
      clear cc_8
      refine lv_iload_n hx hb dX6_isDirection_26 rfl (lv_at hl 0 rfl) ?_
      refine lv_if_ne (tgt := 34) hx hb dX6_isDirection_27 (by decide) (fun cc_7 => ?_) (fun cc_7 => ?_)
      · replace hf := q_ifF cc_7 hf
        clear cc_7
        exact bX6_isDirection_34 E hR hcc Z M _ _ _ _ hf hH (lv_sub hl [] rfl)
      · replace hf := q_ifT cc_7 hf
        clear cc_7
        refine lv_iload_n hx hb dX6_isDirection_30 rfl (lv_at hl 1 rfl) ?_
        refine lv_if_eq (tgt := 38) hx hb dX6_isDirection_31 (by decide) (fun cc_6 => ?_) (fun cc_6 => ?_)
        · replace hf := q_ifT cc_6 hf
          clear cc_6
          exact bX6_isDirection_38 E hR hcc Z M _ _ _ _ hf hH (lv_sub hl [] rfl)
        · replace hf := q_ifF cc_6 hf
          clear cc_6
          exact bX6_isDirection_34 E hR hcc Z M _ _ _ _ hf hH (lv_sub hl [] rfl)
set_option maxRecDepth 100000 in
theorem tX6_isDirection (l : Launch) (D : va_G) (cA : Nat → ClassId) (z0 : Nat) (Z : q_Z) (M : q_C) (v0 : Int32) (v1 : Int32) (r : Int32) (hf : fX6_isDirection v0 v1 = some r) : q_Ct l D cA z0 yX6_isDirection cX6_isDirection 2 (some .boolean) 1 22 [.int v0, .int v1] Z M (some (.int r)) Z M 0 0 := by
  (refine q_start (plainFor_of_name (by decide)) (Nat.le_of_ble_eq_true rfl) (fun p e s m below meth c H ls E hH hl => ?_); exact bX6_isDirection_0 E ⟨Nat.le_refl _, Nat.le_refl _⟩ ⟨Nat.le_refl _, Nat.le_refl _⟩ Z M _ _ H [] ls r hf hH hl)
def fX6_sight_b49 (h : Nat) (Z : q_Z) (M : q_C) : Option (Int32 × q_C) :=
  some ((-1 : Int32), M)
set_option maxHeartbeats 4000000 in
set_option maxRecDepth 100000 in
theorem bX6_sight_49 {cells slots : Nat} (E : q_E p s m meth c cX6_sight 7 RX6 (some .int) "sight" D cA) (hR : 2 ≤ R.frames ∧ 43 ≤ R.locals) (hcc : cells ≤ R.cells ∧ slots ≤ R.slots) (h : Nat) (Z : q_Z) (M : q_C) (H : Heap) (locs : List Loc) (ls : Array Slot) (r : Int32) (M' : q_C) (hf : fX6_sight_b49 h Z M = some (r, M')) (hH : q_Hh D cA z0 s Z M H locs) (hl : lv_has ls 7 [])  : W p l e R s m args below meth c H locs cells slots (MQ below (q_Q D cA z0 (some (.int r)) Z M') args s cells slots (fun q => z0 ≤ q)) (F0 m 49 ls []) := by
  have hx := E.1
  have hb := E.2.1
  have hown := E.2.2.2.1
  have hT := E.2.2.2.2.2.2.2.1
  unfold fX6_sight_b49 at hf
  refine lv_iconst (v := -1) hx hb dX6_sight_49 (by decide) ?_
  cases hf
  exact q_iret E hH dX6_sight_50
def fX6_sight (h : Nat) (v1 : Int32) (v2 : Int32) (v3 : Int32) (v4 : Int32) (v5 : Int32) (Z : q_Z) (M : q_C) : Option (Int32 × q_C) :=
  q_gd (zK Z h == 16) <|
  Option.bind (gR M h 2) fun a_2 =>
  q_gd (zK Z a_2 == 3) <|
  if nI (zL Z a_2) ≤ gI M h 3 then
    fX6_sight_b49 h Z M
  else
    Option.bind (fX6_isWithin v1 (0 : Int32) (2 : Int32)) fun r_5 =>
    if r_5 = 0 then
      fX6_sight_b49 h Z M
    else
      Option.bind (fX6_isStep v2) fun r_7 =>
      if r_7 = 0 then
        fX6_sight_b49 h Z M
      else
        Option.bind (fX6_isDirection v3 v4) fun r_9 =>
        if r_9 = 0 then
          fX6_sight_b49 h Z M
        else
          Option.bind (fX6_isWithin v5 (0 : Int32) (1000 : Int32)) fun r_11 =>
          if r_11 = 0 then
            fX6_sight_b49 h Z M
          else
            Option.bind (gR M h 2) fun a_13 =>
            q_gd (q_ok Z a_13 3 (gI M h 3)) <|
            q_nm (gR M a_13 (gI M h 3).toNatClampNeg) fun v6_16 =>
            q_on v6_16 (
              some ((-1 : Int32), M)
            ) fun a_19 =>
              q_gd (zK Z a_19 == 12) <|
              q_nm (sI M a_19 0 v1) fun M_21 =>
              q_nm (sI M_21 a_19 1 v2) fun M_22 =>
              q_nm (sI M_22 a_19 2 v3) fun M_23 =>
              q_nm (sI M_23 a_19 3 v4) fun M_24 =>
              q_nm (sI M_24 a_19 4 v5) fun M_25 =>
              q_nm (sI M_25 h 3 ((gI M_25 h 3) + (1 : Int32))) fun M_26 =>
              some (((gI M_26 h 3) - (1 : Int32)), M_26)
set_option maxHeartbeats 4000000 in
set_option maxRecDepth 100000 in
theorem bX6_sight_0 {cells slots : Nat} (E : q_E p s m meth c cX6_sight 7 RX6 (some .int) "sight" D cA) (hR : 2 ≤ R.frames ∧ 43 ≤ R.locals) (hcc : cells ≤ R.cells ∧ slots ≤ R.slots) (h : Nat) (v1 : Int32) (v2 : Int32) (v3 : Int32) (v4 : Int32) (v5 : Int32) (Z : q_Z) (M : q_C) (H : Heap) (locs : List Loc) (ls : Array Slot) (r : Int32) (M' : q_C) (hf : fX6_sight h v1 v2 v3 v4 v5 Z M = some (r, M')) (hH : q_Hh D cA z0 s Z M H locs) (hl : lv_has ls 7 [(0, .ref h), (1, .int v1), (2, .int v2), (3, .int v3), (4, .int v4), (5, .int v5)])  : W p l e R s m args below meth c H locs cells slots (MQ below (q_Q D cA z0 (some (.int r)) Z M') args s cells slots (fun q => z0 ≤ q)) (F0 m 0 ls []) := by
  have hx := E.1
  have hb := E.2.1
  have hown := E.2.2.2.1
  have hT := E.2.2.2.2.2.2.2.1
  unfold fX6_sight at hf
  refine lv_aload_n hx hb dX6_sight_0 rfl (lv_at hl 0 rfl) ?_
  obtain ⟨hk_1, hf⟩ := q_gdE hf
  have hk_1 := q_keq hk_1
  refine q_getI E hH (ci := 6) rfl 3 (by decide) kF_X6_25 (fun _ _ _ => rfl) hk_1 dX6_sight_1 ?_
  refine lv_aload_n hx hb dX6_sight_4 rfl (lv_at hl 0 rfl) ?_
  refine q_getR E hH (ci := 6) rfl 2 (by decide) kF_X6_21 (fun _ _ _ => rfl) hk_1 dX6_sight_5 ?_
  obtain ⟨a_2, he_3, hf⟩ := q_biE hf
  rw [he_3]
  obtain ⟨hk_4, hf⟩ := q_gdE hf
  have hk_4 := q_keq hk_4
  refine q_alen3 E hH hk_4 dX6_sight_8 ?_
  refine lv_icmp_ge (tgt := 49) hx hb dX6_sight_9 (by decide) (fun cc_31 => ?_) (fun cc_31 => ?_)
  · replace hf := q_ifT cc_31 hf
    clear cc_31
    exact bX6_sight_49 E hR hcc h Z M _ _ _ _ _ hf hH (lv_sub hl [] rfl)
  · replace hf := q_ifF cc_31 hf
    clear cc_31
    refine lv_iload_n hx hb dX6_sight_12 rfl (lv_at hl 1 rfl) ?_
    refine lv_iconst (v := 0) hx hb dX6_sight_13 (by decide) ?_
    refine lv_iconst (v := 2) hx hb dX6_sight_14 (by decide) ?_
    obtain ⟨r_5, hw_6, hf⟩ := q_biE hf
    refine q_cS (As := [.int v1, .int (0 : Int32), .int (2 : Int32)]) (rest := []) (st1 := [.int r_5]) E hH (tX6_isWithin l D cA z0 Z M v1 (0 : Int32) (2 : Int32) r_5 hw_6) mw_X6_isWithin mi_X6_isWithin kM_X6_76 hcc rfl rfl rfl hl.1 rfl rfl (Nat.le_of_ble_eq_true rfl) ⟨Nat.le_trans (by decide) hR.1, Nat.le_trans (by decide) hR.2⟩ dX6_sight_15 (fun H locs hH => ?_)
    refine lv_if_eq (tgt := 49) hx hb dX6_sight_18 (by decide) (fun cc_30 => ?_) (fun cc_30 => ?_)
    · replace hf := q_ifT cc_30 hf
      clear cc_30
      exact bX6_sight_49 E hR hcc h Z M _ _ _ _ _ hf hH (lv_sub hl [] rfl)
    · replace hf := q_ifF cc_30 hf
      clear cc_30
      refine lv_iload_n hx hb dX6_sight_21 rfl (lv_at hl 2 rfl) ?_
      obtain ⟨r_7, hw_8, hf⟩ := q_biE hf
      refine q_cS (As := [.int v2]) (rest := []) (st1 := [.int r_7]) E hH (tX6_isStep l D cA z0 Z M v2 r_7 hw_8) mw_X6_isStep mi_X6_isStep kM_X6_101 hcc rfl rfl rfl hl.1 rfl rfl (Nat.le_of_ble_eq_true rfl) ⟨Nat.le_trans (by decide) hR.1, Nat.le_trans (by decide) hR.2⟩ dX6_sight_22 (fun H locs hH => ?_)
      refine lv_if_eq (tgt := 49) hx hb dX6_sight_25 (by decide) (fun cc_29 => ?_) (fun cc_29 => ?_)
      · replace hf := q_ifT cc_29 hf
        clear cc_29
        exact bX6_sight_49 E hR hcc h Z M _ _ _ _ _ hf hH (lv_sub hl [] rfl)
      · replace hf := q_ifF cc_29 hf
        clear cc_29
        refine lv_iload_n hx hb dX6_sight_28 rfl (lv_at hl 3 rfl) ?_
        refine lv_iload hx hb dX6_sight_29 (lv_at hl 4 rfl) ?_
        obtain ⟨r_9, hw_10, hf⟩ := q_biE hf
        refine q_cS (As := [.int v3, .int v4]) (rest := []) (st1 := [.int r_9]) E hH (tX6_isDirection l D cA z0 Z M v3 v4 r_9 hw_10) mw_X6_isDirection mi_X6_isDirection kM_X6_105 hcc rfl rfl rfl hl.1 rfl rfl (Nat.le_of_ble_eq_true rfl) ⟨Nat.le_trans (by decide) hR.1, Nat.le_trans (by decide) hR.2⟩ dX6_sight_31 (fun H locs hH => ?_)
        refine lv_if_eq (tgt := 49) hx hb dX6_sight_34 (by decide) (fun cc_28 => ?_) (fun cc_28 => ?_)
        · replace hf := q_ifT cc_28 hf
          clear cc_28
          exact bX6_sight_49 E hR hcc h Z M _ _ _ _ _ hf hH (lv_sub hl [] rfl)
        · replace hf := q_ifF cc_28 hf
          clear cc_28
          refine lv_iload hx hb dX6_sight_37 (lv_at hl 5 rfl) ?_
          refine lv_iconst (v := 0) hx hb dX6_sight_39 (by decide) ?_
          refine lv_sipush (v := 1000) hx hb dX6_sight_40 (by decide) ?_
          obtain ⟨r_11, hw_12, hf⟩ := q_biE hf
          refine q_cS (As := [.int v5, .int (0 : Int32), .int (1000 : Int32)]) (rest := []) (st1 := [.int r_11]) E hH (tX6_isWithin l D cA z0 Z M v5 (0 : Int32) (1000 : Int32) r_11 hw_12) mw_X6_isWithin mi_X6_isWithin kM_X6_76 hcc rfl rfl rfl hl.1 rfl rfl (Nat.le_of_ble_eq_true rfl) ⟨Nat.le_trans (by decide) hR.1, Nat.le_trans (by decide) hR.2⟩ dX6_sight_43 (fun H locs hH => ?_)
          refine lv_if_ne (tgt := 51) hx hb dX6_sight_46 (by decide) (fun cc_27 => ?_) (fun cc_27 => ?_)
          · replace hf := q_ifF cc_27 hf
            clear cc_27
            refine lv_aload_n hx hb dX6_sight_51 rfl (lv_at hl 0 rfl) ?_
            refine q_getR E hH (ci := 6) rfl 2 (by decide) kF_X6_21 (fun _ _ _ => rfl) hk_1 dX6_sight_52 ?_
            obtain ⟨a_13, he_14, hf⟩ := q_biE hf
            rw [he_14]
            refine lv_aload_n hx hb dX6_sight_55 rfl (lv_at hl 0 rfl) ?_
            refine q_getI E hH (ci := 6) rfl 3 (by decide) kF_X6_25 (fun _ _ _ => rfl) hk_1 dX6_sight_56 ?_
            obtain ⟨hz_15, hf⟩ := q_gdE hf
            refine q_aaload3 E hH hz_15 dX6_sight_59 ?_
            refine q_topr (fun v6_16 hn_17 => ?_)
            replace hf := q_nmE hn_17 hf
            clear hn_17
            refine q_astore (lv' := [(6, va_rf v6_16), (0, .ref h), (1, .int v1), (2, .int v2), (3, .int v3), (4, .int v4), (5, .int v5)]) hx hb dX6_sight_60 hl (by decide) rfl (fun ls hl => ?_)
            refine q_aload hx hb dX6_sight_62 (lv_at hl 0 rfl) ?_
            refine q_ifnonnull (tgt := 69) hx hb dX6_sight_64 (by decide) hf (fun cc_18 hf => ?_) (fun a_19 cc_18 hf => ?_)
            · subst cc_18
              refine lv_iconst (v := -1) hx hb dX6_sight_67 (by decide) ?_
              cases hf
              exact q_iret E hH dX6_sight_68
            · subst cc_18
              refine lv_aload hx hb dX6_sight_69 (lv_at hl 0 rfl) ?_
              refine lv_iload_n hx hb dX6_sight_71 rfl (lv_at hl 2 rfl) ?_
              obtain ⟨hk_20, hf⟩ := q_gdE hf
              have hk_20 := q_keq hk_20
              refine q_putIN E hH (ci := 2) rfl 0 (by decide) kF_X6_109 rfl (fun _ _ _ => rfl) (x := v1) hk_20 rfl rfl dX6_sight_72 hf (fun M_21 H locs hH hf => ?_)
              refine lv_aload hx hb dX6_sight_75 (lv_at hl 0 rfl) ?_
              refine lv_iload_n hx hb dX6_sight_77 rfl (lv_at hl 3 rfl) ?_
              refine q_putIN E hH (ci := 2) rfl 1 (by decide) kF_X6_112 rfl (fun _ _ _ => rfl) (x := v2) hk_20 rfl rfl dX6_sight_78 hf (fun M_22 H locs hH hf => ?_)
              refine lv_aload hx hb dX6_sight_81 (lv_at hl 0 rfl) ?_
              refine lv_iload_n hx hb dX6_sight_83 rfl (lv_at hl 4 rfl) ?_
              refine q_putIN E hH (ci := 2) rfl 2 (by decide) kF_X6_115 rfl (fun _ _ _ => rfl) (x := v3) hk_20 rfl rfl dX6_sight_84 hf (fun M_23 H locs hH hf => ?_)
              refine lv_aload hx hb dX6_sight_87 (lv_at hl 0 rfl) ?_
              refine lv_iload hx hb dX6_sight_89 (lv_at hl 5 rfl) ?_
              refine q_putIN E hH (ci := 2) rfl 3 (by decide) kF_X6_118 rfl (fun _ _ _ => rfl) (x := v4) hk_20 rfl rfl dX6_sight_91 hf (fun M_24 H locs hH hf => ?_)
              refine lv_aload hx hb dX6_sight_94 (lv_at hl 0 rfl) ?_
              refine lv_iload hx hb dX6_sight_96 (lv_at hl 6 rfl) ?_
              refine q_putIN E hH (ci := 2) rfl 4 (by decide) kF_X6_121 rfl (fun _ _ _ => rfl) (x := v5) hk_20 rfl rfl dX6_sight_98 hf (fun M_25 H locs hH hf => ?_)
              refine lv_aload_n hx hb dX6_sight_101 rfl (lv_at hl 1 rfl) ?_
              refine lv_dup hx hb dX6_sight_102 rfl ?_
              refine q_getI E hH (ci := 6) rfl 3 (by decide) kF_X6_25 (fun _ _ _ => rfl) hk_1 dX6_sight_103 ?_
              refine lv_iconst (v := 1) hx hb dX6_sight_106 (by decide) ?_
              refine lv_iadd hx hb dX6_sight_107 ?_
              refine q_putI E hH (ci := 6) rfl 3 (by decide) kF_X6_25 rfl (fun _ _ _ => rfl) (x := (gI M_25 h 3) + (1 : Int32)) hk_1 rfl rfl dX6_sight_108 hf (fun M_26 H locs hH hf => ?_)
              refine lv_aload_n hx hb dX6_sight_111 rfl (lv_at hl 1 rfl) ?_
              refine q_getI E hH (ci := 6) rfl 3 (by decide) kF_X6_25 (fun _ _ _ => rfl) hk_1 dX6_sight_112 ?_
              refine lv_iconst (v := 1) hx hb dX6_sight_115 (by decide) ?_
              refine lv_isub hx hb dX6_sight_116 ?_
              cases hf
              exact q_iret E hH dX6_sight_117
          · replace hf := q_ifT cc_27 hf
            clear cc_27
            exact bX6_sight_49 E hR hcc h Z M _ _ _ _ _ hf hH (lv_sub hl [] rfl)
set_option maxRecDepth 100000 in
theorem tX6_sight (l : Launch) (D : va_G) (cA : Nat → ClassId) (z0 : Nat) (h : Nat) (v1 : Int32) (v2 : Int32) (v3 : Int32) (v4 : Int32) (v5 : Int32) (Z : q_Z) (M : q_C) (r : Int32) (M' : q_C) (hf : fX6_sight h v1 v2 v3 v4 v5 Z M = some (r, M')) : q_Ct l D cA z0 yX6_sight cX6_sight 7 (some .int) 2 43 [.ref h, .int v1, .int v2, .int v3, .int v4, .int v5] Z M (some (.int r)) Z M' 0 0 := by
  (refine q_start (plainFor_of_name (by decide)) (Nat.le_of_ble_eq_true rfl) (fun p e s m below meth c H ls E hH hl => ?_); exact bX6_sight_0 E ⟨Nat.le_refl _, Nat.le_refl _⟩ ⟨Nat.le_refl _, Nat.le_refl _⟩ h _ _ _ _ _ Z M H [] ls r M' hf hH hl)
def fX6_sightOf_b31 (h : Nat) (s0 : Option Nat) (Z : q_Z) (M : q_C) : Option (Option Nat) :=
  some s0
set_option maxHeartbeats 4000000 in
set_option maxRecDepth 100000 in
theorem bX6_sightOf_31 {cells slots : Nat} (E : q_E p s m meth c cX6_sightOf 2 RX6 (some (.object "CometBench$Sight")) "sightOf" D cA) (hR : 0 ≤ R.frames ∧ 0 ≤ R.locals) (hcc : cells ≤ R.cells ∧ slots ≤ R.slots) (h : Nat) (s0 : Option Nat) (Z : q_Z) (M : q_C) (H : Heap) (locs : List Loc) (ls : Array Slot) (r : Option Nat) (hf : fX6_sightOf_b31 h s0 Z M = some r) (hH : q_Hh D cA z0 s Z M H locs) (hl : lv_has ls 2 [])  : W p l e R s m args below meth c H locs cells slots (MQ below (q_Q D cA z0 (some (va_rf r)) Z M) args s cells slots (fun q => z0 ≤ q)) (F0 m 31 ls [va_rf s0]) := by
  have hx := E.1
  have hb := E.2.1
  have hown := E.2.2.2.1
  have hT := E.2.2.2.2.2.2.2.1
  unfold fX6_sightOf_b31 at hf
  cases hf
  exact q_aret (v := _) E hH dX6_sightOf_31
def fX6_sightOf_b30 (h : Nat) (Z : q_Z) (M : q_C) : Option (Option Nat) :=
  fX6_sightOf_b31 h none Z M
set_option maxHeartbeats 4000000 in
set_option maxRecDepth 100000 in
theorem bX6_sightOf_30 {cells slots : Nat} (E : q_E p s m meth c cX6_sightOf 2 RX6 (some (.object "CometBench$Sight")) "sightOf" D cA) (hR : 0 ≤ R.frames ∧ 0 ≤ R.locals) (hcc : cells ≤ R.cells ∧ slots ≤ R.slots) (h : Nat) (Z : q_Z) (M : q_C) (H : Heap) (locs : List Loc) (ls : Array Slot) (r : Option Nat) (hf : fX6_sightOf_b30 h Z M = some r) (hH : q_Hh D cA z0 s Z M H locs) (hl : lv_has ls 2 [])  : W p l e R s m args below meth c H locs cells slots (MQ below (q_Q D cA z0 (some (va_rf r)) Z M) args s cells slots (fun q => z0 ≤ q)) (F0 m 30 ls []) := by
  have hx := E.1
  have hb := E.2.1
  have hown := E.2.2.2.1
  have hT := E.2.2.2.2.2.2.2.1
  unfold fX6_sightOf_b30 at hf
  refine lv_null hx hb dX6_sightOf_30 ?_
  exact bX6_sightOf_31 E hR hcc h none Z M _ _ _ _ hf hH (lv_sub hl [] rfl)
def fX6_sightOf (h : Nat) (v1 : Int32) (Z : q_Z) (M : q_C) : Option (Option Nat) :=
  if v1 < 0 then
    fX6_sightOf_b30 h Z M
  else
    q_gd (zK Z h == 16) <|
    if gI M h 3 ≤ v1 then
      fX6_sightOf_b30 h Z M
    else
      Option.bind (gR M h 2) fun a_2 =>
      q_gd (zK Z a_2 == 3) <|
      if nI (zL Z a_2) ≤ v1 then
        fX6_sightOf_b30 h Z M
      else
        Option.bind (gR M h 2) fun a_5 =>
        q_gd (q_ok Z a_5 3 v1) <|
        fX6_sightOf_b31 h (gR M a_5 v1.toNatClampNeg) Z M
set_option maxHeartbeats 4000000 in
set_option maxRecDepth 100000 in
theorem bX6_sightOf_0 {cells slots : Nat} (E : q_E p s m meth c cX6_sightOf 2 RX6 (some (.object "CometBench$Sight")) "sightOf" D cA) (hR : 0 ≤ R.frames ∧ 0 ≤ R.locals) (hcc : cells ≤ R.cells ∧ slots ≤ R.slots) (h : Nat) (v1 : Int32) (Z : q_Z) (M : q_C) (H : Heap) (locs : List Loc) (ls : Array Slot) (r : Option Nat) (hf : fX6_sightOf h v1 Z M = some r) (hH : q_Hh D cA z0 s Z M H locs) (hl : lv_has ls 2 [(0, .ref h), (1, .int v1)])  : W p l e R s m args below meth c H locs cells slots (MQ below (q_Q D cA z0 (some (va_rf r)) Z M) args s cells slots (fun q => z0 ≤ q)) (F0 m 0 ls []) := by
  have hx := E.1
  have hb := E.2.1
  have hown := E.2.2.2.1
  have hT := E.2.2.2.2.2.2.2.1
  unfold fX6_sightOf at hf
  refine lv_iload_n hx hb dX6_sightOf_0 rfl (lv_at hl 1 rfl) ?_
  refine lv_if_lt (tgt := 30) hx hb dX6_sightOf_1 (by decide) (fun cc_10 => ?_) (fun cc_10 => ?_)
  · replace hf := q_ifT cc_10 hf
    clear cc_10
    exact bX6_sightOf_30 E hR hcc h Z M _ _ _ _ hf hH (lv_sub hl [] rfl)
  · replace hf := q_ifF cc_10 hf
    clear cc_10
    refine lv_iload_n hx hb dX6_sightOf_4 rfl (lv_at hl 1 rfl) ?_
    refine lv_aload_n hx hb dX6_sightOf_5 rfl (lv_at hl 0 rfl) ?_
    obtain ⟨hk_1, hf⟩ := q_gdE hf
    have hk_1 := q_keq hk_1
    refine q_getI E hH (ci := 6) rfl 3 (by decide) kF_X6_25 (fun _ _ _ => rfl) hk_1 dX6_sightOf_6 ?_
    refine lv_icmp_ge (tgt := 30) hx hb dX6_sightOf_9 (by decide) (fun cc_9 => ?_) (fun cc_9 => ?_)
    · replace hf := q_ifT cc_9 hf
      clear cc_9
      exact bX6_sightOf_30 E hR hcc h Z M _ _ _ _ hf hH (lv_sub hl [] rfl)
    · replace hf := q_ifF cc_9 hf
      clear cc_9
      refine lv_iload_n hx hb dX6_sightOf_12 rfl (lv_at hl 1 rfl) ?_
      refine lv_aload_n hx hb dX6_sightOf_13 rfl (lv_at hl 0 rfl) ?_
      refine q_getR E hH (ci := 6) rfl 2 (by decide) kF_X6_21 (fun _ _ _ => rfl) hk_1 dX6_sightOf_14 ?_
      obtain ⟨a_2, he_3, hf⟩ := q_biE hf
      rw [he_3]
      obtain ⟨hk_4, hf⟩ := q_gdE hf
      have hk_4 := q_keq hk_4
      refine q_alen3 E hH hk_4 dX6_sightOf_17 ?_
      refine lv_icmp_ge (tgt := 30) hx hb dX6_sightOf_18 (by decide) (fun cc_8 => ?_) (fun cc_8 => ?_)
      · replace hf := q_ifT cc_8 hf
        clear cc_8
        exact bX6_sightOf_30 E hR hcc h Z M _ _ _ _ hf hH (lv_sub hl [] rfl)
      · replace hf := q_ifF cc_8 hf
        clear cc_8
        refine lv_aload_n hx hb dX6_sightOf_21 rfl (lv_at hl 0 rfl) ?_
        refine q_getR E hH (ci := 6) rfl 2 (by decide) kF_X6_21 (fun _ _ _ => rfl) hk_1 dX6_sightOf_22 ?_
        obtain ⟨a_5, he_6, hf⟩ := q_biE hf
        rw [he_6]
        refine lv_iload_n hx hb dX6_sightOf_25 rfl (lv_at hl 1 rfl) ?_
        obtain ⟨hz_7, hf⟩ := q_gdE hf
        refine q_aaload3 E hH hz_7 dX6_sightOf_26 ?_
        refine lv_goto (tgt := 31) hx hb dX6_sightOf_27 (by decide) ?_
        exact bX6_sightOf_31 E hR hcc h (gR M a_5 v1.toNatClampNeg) Z M _ _ _ _ hf hH (lv_sub hl [] rfl)
set_option maxRecDepth 100000 in
theorem tX6_sightOf (l : Launch) (D : va_G) (cA : Nat → ClassId) (z0 : Nat) (h : Nat) (v1 : Int32) (Z : q_Z) (M : q_C) (r : Option Nat) (hf : fX6_sightOf h v1 Z M = some r) : q_Ct l D cA z0 yX6_sightOf cX6_sightOf 2 (some (.object "CometBench$Sight")) 0 0 [.ref h, .int v1] Z M (some (va_rf r)) Z M 0 0 := by
  (refine q_start (plainFor_of_name (by decide)) (Nat.le_of_ble_eq_true rfl) (fun p e s m below meth c H ls E hH hl => ?_); exact bX6_sightOf_0 E ⟨Nat.le_refl _, Nat.le_refl _⟩ ⟨Nat.le_refl _, Nat.le_refl _⟩ h _ Z M H [] ls r hf hH hl)
def fX6_miss_b21 (h : Nat) (Z : q_Z) (M : q_C) : Option (Int32 × q_C) :=
  some ((-1 : Int32), M)
set_option maxHeartbeats 4000000 in
set_option maxRecDepth 100000 in
theorem bX6_miss_21 {cells slots : Nat} (E : q_E p s m meth c cX6_miss 5 RX6 (some .int) "miss" D cA) (hR : 1 ≤ R.frames ∧ 22 ≤ R.locals) (hcc : cells ≤ R.cells ∧ slots ≤ R.slots) (h : Nat) (Z : q_Z) (M : q_C) (H : Heap) (locs : List Loc) (ls : Array Slot) (r : Int32) (M' : q_C) (hf : fX6_miss_b21 h Z M = some (r, M')) (hH : q_Hh D cA z0 s Z M H locs) (hl : lv_has ls 5 [])  : W p l e R s m args below meth c H locs cells slots (MQ below (q_Q D cA z0 (some (.int r)) Z M') args s cells slots (fun q => z0 ≤ q)) (F0 m 21 ls []) := by
  have hx := E.1
  have hb := E.2.1
  have hown := E.2.2.2.1
  have hT := E.2.2.2.2.2.2.2.1
  unfold fX6_miss_b21 at hf
  refine lv_iconst (v := -1) hx hb dX6_miss_21 (by decide) ?_
  cases hf
  exact q_iret E hH dX6_miss_22
def fX6_miss (h : Nat) (v1 : Int32) (v2 : Int32) (Z : q_Z) (M : q_C) : Option (Int32 × q_C) :=
  q_gd (zK Z h == 16) <|
  Option.bind (fX6_sightOf h v1 Z M) fun r_2 =>
  q_on r_2 (
    fX6_miss_b21 h Z M
  ) fun a_5 =>
    Option.bind (fX6_isWithin v2 (0 : Int32) (1000 : Int32)) fun r_6 =>
    if r_6 = 0 then
      fX6_miss_b21 h Z M
    else
      q_gd (zK Z a_5 == 12) <|
      q_nm (gI M a_5 4) fun v4_9 =>
      q_nm (sI M a_5 4 v2) fun M_11 =>
      some (v4_9, M_11)
set_option maxHeartbeats 4000000 in
set_option maxRecDepth 100000 in
theorem bX6_miss_0 {cells slots : Nat} (E : q_E p s m meth c cX6_miss 5 RX6 (some .int) "miss" D cA) (hR : 1 ≤ R.frames ∧ 22 ≤ R.locals) (hcc : cells ≤ R.cells ∧ slots ≤ R.slots) (h : Nat) (v1 : Int32) (v2 : Int32) (Z : q_Z) (M : q_C) (H : Heap) (locs : List Loc) (ls : Array Slot) (r : Int32) (M' : q_C) (hf : fX6_miss h v1 v2 Z M = some (r, M')) (hH : q_Hh D cA z0 s Z M H locs) (hl : lv_has ls 5 [(0, .ref h), (1, .int v1), (2, .int v2)])  : W p l e R s m args below meth c H locs cells slots (MQ below (q_Q D cA z0 (some (.int r)) Z M') args s cells slots (fun q => z0 ≤ q)) (F0 m 0 ls []) := by
  have hx := E.1
  have hb := E.2.1
  have hown := E.2.2.2.1
  have hT := E.2.2.2.2.2.2.2.1
  unfold fX6_miss at hf
  refine lv_aload_n hx hb dX6_miss_0 rfl (lv_at hl 0 rfl) ?_
  refine lv_iload_n hx hb dX6_miss_1 rfl (lv_at hl 1 rfl) ?_
  obtain ⟨hk_1, hf⟩ := q_gdE hf
  have hk_1 := q_keq hk_1
  obtain ⟨r_2, hw_3, hf⟩ := q_biE hf
  refine q_cV (As := [.int v1]) (rest := []) (st1 := [va_rf r_2]) E hH (tX6_sightOf l D cA z0 h v1 Z M r_2 hw_3) mw_X6_sightOf mi_X6_sightOf (ci := 6) rfl ms_X6_sightOf kM_X6_124 hk_1 hcc rfl rfl rfl hl.1 rfl rfl (Nat.le_of_ble_eq_true rfl) ⟨Nat.le_trans (by decide) hR.1, Nat.le_trans (by decide) hR.2⟩ dX6_miss_2 (fun H locs hH => ?_)
  refine q_astore_n (lv' := [(3, va_rf r_2), (0, .ref h), (1, .int v1), (2, .int v2)]) hx hb dX6_miss_5 rfl hl (by decide) rfl (fun ls hl => ?_)
  refine q_aload_n hx hb dX6_miss_6 rfl (lv_at hl 0 rfl) ?_
  refine q_ifnull (tgt := 21) hx hb dX6_miss_7 (by decide) hf (fun cc_4 hf => ?_) (fun a_5 cc_4 hf => ?_)
  · subst cc_4
    exact bX6_miss_21 E hR hcc h Z M _ _ _ _ _ hf hH (lv_sub hl [] rfl)
  · subst cc_4
    refine lv_iload_n hx hb dX6_miss_10 rfl (lv_at hl 3 rfl) ?_
    refine lv_iconst (v := 0) hx hb dX6_miss_11 (by decide) ?_
    refine lv_sipush (v := 1000) hx hb dX6_miss_12 (by decide) ?_
    obtain ⟨r_6, hw_7, hf⟩ := q_biE hf
    refine q_cS (As := [.int v2, .int (0 : Int32), .int (1000 : Int32)]) (rest := []) (st1 := [.int r_6]) E hH (tX6_isWithin l D cA z0 Z M v2 (0 : Int32) (1000 : Int32) r_6 hw_7) mw_X6_isWithin mi_X6_isWithin kM_X6_76 hcc rfl rfl rfl hl.1 rfl rfl (Nat.le_of_ble_eq_true rfl) ⟨Nat.le_trans (by decide) hR.1, Nat.le_trans (by decide) hR.2⟩ dX6_miss_15 (fun H locs hH => ?_)
    refine lv_if_ne (tgt := 23) hx hb dX6_miss_18 (by decide) (fun cc_12 => ?_) (fun cc_12 => ?_)
    · replace hf := q_ifF cc_12 hf
      clear cc_12
      refine lv_aload_n hx hb dX6_miss_23 rfl (lv_at hl 0 rfl) ?_
      obtain ⟨hk_8, hf⟩ := q_gdE hf
      have hk_8 := q_keq hk_8
      refine q_getIN E hH (ci := 2) rfl 4 (by decide) kF_X6_121 (fun _ _ _ => rfl) hk_8 dX6_miss_24 ?_
      refine lv_topi (fun v4_9 hn_10 => ?_)
      replace hf := q_nmE hn_10 hf
      clear hn_10
      refine lv_istore (lv' := [(4, .int v4_9), (3, .ref a_5), (0, .ref h), (1, .int v1), (2, .int v2)]) hx hb dX6_miss_27 hl (by decide) rfl (fun ls hl => ?_)
      refine lv_aload_n hx hb dX6_miss_29 rfl (lv_at hl 1 rfl) ?_
      refine lv_iload_n hx hb dX6_miss_30 rfl (lv_at hl 4 rfl) ?_
      refine q_putIN E hH (ci := 2) rfl 4 (by decide) kF_X6_121 rfl (fun _ _ _ => rfl) (x := v2) hk_8 rfl rfl dX6_miss_31 hf (fun M_11 H locs hH hf => ?_)
      refine lv_iload hx hb dX6_miss_34 (lv_at hl 0 rfl) ?_
      cases hf
      exact q_iret E hH dX6_miss_36
    · replace hf := q_ifT cc_12 hf
      clear cc_12
      exact bX6_miss_21 E hR hcc h Z M _ _ _ _ _ hf hH (lv_sub hl [] rfl)
set_option maxRecDepth 100000 in
theorem tX6_miss (l : Launch) (D : va_G) (cA : Nat → ClassId) (z0 : Nat) (h : Nat) (v1 : Int32) (v2 : Int32) (Z : q_Z) (M : q_C) (r : Int32) (M' : q_C) (hf : fX6_miss h v1 v2 Z M = some (r, M')) : q_Ct l D cA z0 yX6_miss cX6_miss 5 (some .int) 1 22 [.ref h, .int v1, .int v2] Z M (some (.int r)) Z M' 0 0 := by
  (refine q_start (plainFor_of_name (by decide)) (Nat.le_of_ble_eq_true rfl) (fun p e s m below meth c H ls E hH hl => ?_); exact bX6_miss_0 E ⟨Nat.le_refl _, Nat.le_refl _⟩ ⟨Nat.le_refl _, Nat.le_refl _⟩ h _ _ Z M H [] ls r M' hf hH hl)
def fX6_isOfBase_b21 (h : Nat) (s0 : Int32) (Z : q_Z) (M : q_C) : Option (Int32) :=
  q_gd (decide (s0 = 0) || decide (s0 = 1)) <|
  some s0
set_option maxHeartbeats 4000000 in
set_option maxRecDepth 100000 in
theorem bX6_isOfBase_21 {cells slots : Nat} (E : q_E p s m meth c cX6_isOfBase 2 RX6 (some .boolean) "isOfBase" D cA) (hR : 0 ≤ R.frames ∧ 0 ≤ R.locals) (hcc : cells ≤ R.cells ∧ slots ≤ R.slots) (h : Nat) (s0 : Int32) (Z : q_Z) (M : q_C) (H : Heap) (locs : List Loc) (ls : Array Slot) (r : Int32) (hf : fX6_isOfBase_b21 h s0 Z M = some r) (hH : q_Hh D cA z0 s Z M H locs) (hl : lv_has ls 2 [])  : W p l e R s m args below meth c H locs cells slots (MQ below (q_Q D cA z0 (some (.int r)) Z M) args s cells slots (fun q => z0 ≤ q)) (F0 m 21 ls [.int s0]) := by
  have hx := E.1
  have hb := E.2.1
  have hown := E.2.2.2.1
  have hT := E.2.2.2.2.2.2.2.1
  unfold fX6_isOfBase_b21 at hf
  obtain ⟨hz_2, hf⟩ := q_gdE hf
  cases hf
  exact q_zret E hH hz_2 dX6_isOfBase_21
def fX6_isOfBase_b16 (h : Nat) (Z : q_Z) (M : q_C) : Option (Int32) :=
  fX6_isOfBase_b21 h (1 : Int32) Z M
set_option maxHeartbeats 4000000 in
set_option maxRecDepth 100000 in
theorem bX6_isOfBase_16 {cells slots : Nat} (E : q_E p s m meth c cX6_isOfBase 2 RX6 (some .boolean) "isOfBase" D cA) (hR : 0 ≤ R.frames ∧ 0 ≤ R.locals) (hcc : cells ≤ R.cells ∧ slots ≤ R.slots) (h : Nat) (Z : q_Z) (M : q_C) (H : Heap) (locs : List Loc) (ls : Array Slot) (r : Int32) (hf : fX6_isOfBase_b16 h Z M = some r) (hH : q_Hh D cA z0 s Z M H locs) (hl : lv_has ls 2 [])  : W p l e R s m args below meth c H locs cells slots (MQ below (q_Q D cA z0 (some (.int r)) Z M) args s cells slots (fun q => z0 ≤ q)) (F0 m 16 ls []) := by
  have hx := E.1
  have hb := E.2.1
  have hown := E.2.2.2.1
  have hT := E.2.2.2.2.2.2.2.1
  unfold fX6_isOfBase_b16 at hf
  refine lv_iconst (v := 1) hx hb dX6_isOfBase_16 (by decide) ?_
  refine lv_goto (tgt := 21) hx hb dX6_isOfBase_17 (by decide) ?_
  exact bX6_isOfBase_21 E hR hcc h (1 : Int32) Z M _ _ _ _ hf hH (lv_sub hl [] rfl)
def fX6_isOfBase (h : Nat) (v1 : Int32) (Z : q_Z) (M : q_C) : Option (Int32) :=
  q_gd (zK Z h == 16) <|
  if v1 = gI M h 4 then
    fX6_isOfBase_b16 h Z M
  else
    if v1 = gI M h 5 then
      fX6_isOfBase_b16 h Z M
    else
      fX6_isOfBase_b21 h (0 : Int32) Z M
set_option maxHeartbeats 4000000 in
set_option maxRecDepth 100000 in
theorem bX6_isOfBase_0 {cells slots : Nat} (E : q_E p s m meth c cX6_isOfBase 2 RX6 (some .boolean) "isOfBase" D cA) (hR : 0 ≤ R.frames ∧ 0 ≤ R.locals) (hcc : cells ≤ R.cells ∧ slots ≤ R.slots) (h : Nat) (v1 : Int32) (Z : q_Z) (M : q_C) (H : Heap) (locs : List Loc) (ls : Array Slot) (r : Int32) (hf : fX6_isOfBase h v1 Z M = some r) (hH : q_Hh D cA z0 s Z M H locs) (hl : lv_has ls 2 [(0, .ref h), (1, .int v1)])  : W p l e R s m args below meth c H locs cells slots (MQ below (q_Q D cA z0 (some (.int r)) Z M) args s cells slots (fun q => z0 ≤ q)) (F0 m 0 ls []) := by
  have hx := E.1
  have hb := E.2.1
  have hown := E.2.2.2.1
  have hT := E.2.2.2.2.2.2.2.1
  unfold fX6_isOfBase at hf
  refine lv_iload_n hx hb dX6_isOfBase_0 rfl (lv_at hl 1 rfl) ?_
  refine lv_aload_n hx hb dX6_isOfBase_1 rfl (lv_at hl 0 rfl) ?_
  obtain ⟨hk_1, hf⟩ := q_gdE hf
  have hk_1 := q_keq hk_1
  refine q_getI E hH (ci := 6) rfl 4 (by decide) kF_X6_29 (fun _ _ _ => rfl) hk_1 dX6_isOfBase_2 ?_
  refine lv_icmp_eq (tgt := 16) hx hb dX6_isOfBase_5 (by decide) (fun cc_4 => ?_) (fun cc_4 => ?_)
  · replace hf := q_ifT cc_4 hf
    clear cc_4
    exact bX6_isOfBase_16 E hR hcc h Z M _ _ _ _ hf hH (lv_sub hl [] rfl)
  · replace hf := q_ifF cc_4 hf
    clear cc_4
    refine lv_iload_n hx hb dX6_isOfBase_8 rfl (lv_at hl 1 rfl) ?_
    refine lv_aload_n hx hb dX6_isOfBase_9 rfl (lv_at hl 0 rfl) ?_
    refine q_getI E hH (ci := 6) rfl 5 (by decide) kF_X6_32 (fun _ _ _ => rfl) hk_1 dX6_isOfBase_10 ?_
    refine lv_icmp_ne (tgt := 20) hx hb dX6_isOfBase_13 (by decide) (fun cc_3 => ?_) (fun cc_3 => ?_)
    · replace hf := q_ifF cc_3 hf
      clear cc_3
      refine lv_iconst (v := 0) hx hb dX6_isOfBase_20 (by decide) ?_
      exact bX6_isOfBase_21 E hR hcc h (0 : Int32) Z M _ _ _ _ hf hH (lv_sub hl [] rfl)
    · replace hf := q_ifT cc_3 hf
      clear cc_3
      exact bX6_isOfBase_16 E hR hcc h Z M _ _ _ _ hf hH (lv_sub hl [] rfl)
set_option maxRecDepth 100000 in
theorem tX6_isOfBase (l : Launch) (D : va_G) (cA : Nat → ClassId) (z0 : Nat) (h : Nat) (v1 : Int32) (Z : q_Z) (M : q_C) (r : Int32) (hf : fX6_isOfBase h v1 Z M = some r) : q_Ct l D cA z0 yX6_isOfBase cX6_isOfBase 2 (some .boolean) 0 0 [.ref h, .int v1] Z M (some (.int r)) Z M 0 0 := by
  (refine q_start (plainFor_of_name (by decide)) (Nat.le_of_ble_eq_true rfl) (fun p e s m below meth c H ls E hH hl => ?_); exact bX6_isOfBase_0 E ⟨Nat.le_refl _, Nat.le_refl _⟩ ⟨Nat.le_refl _, Nat.le_refl _⟩ h _ Z M H [] ls r hf hH hl)
def fX6_unsee_b41 (h : Nat) (Z : q_Z) (M : q_C) : Option (Int32 × q_C) :=
  q_gd (zK Z h == 16) <|
  some ((gI M h 3), M)
set_option maxHeartbeats 4000000 in
set_option maxRecDepth 100000 in
theorem bX6_unsee_41 {cells slots : Nat} (E : q_E p s m meth c cX6_unsee 1 RX6 (some .int) "unsee" D cA) (hR : 1 ≤ R.frames ∧ 21 ≤ R.locals) (hcc : cells ≤ R.cells ∧ slots ≤ R.slots) (h : Nat) (Z : q_Z) (M : q_C) (H : Heap) (locs : List Loc) (ls : Array Slot) (r : Int32) (M' : q_C) (hf : fX6_unsee_b41 h Z M = some (r, M')) (hH : q_Hh D cA z0 s Z M H locs) (hl : lv_has ls 1 [(0, .ref h)])  : W p l e R s m args below meth c H locs cells slots (MQ below (q_Q D cA z0 (some (.int r)) Z M') args s cells slots (fun q => z0 ≤ q)) (F0 m 41 ls []) := by
  have hx := E.1
  have hb := E.2.1
  have hown := E.2.2.2.1
  have hT := E.2.2.2.2.2.2.2.1
  unfold fX6_unsee_b41 at hf
  refine lv_aload_n hx hb dX6_unsee_41 rfl (lv_at hl 0 rfl) ?_
  obtain ⟨hk_5, hf⟩ := q_gdE hf
  have hk_5 := q_keq hk_5
  refine q_getI E hH (ci := 6) rfl 3 (by decide) kF_X6_25 (fun _ _ _ => rfl) hk_5 dX6_unsee_42 ?_
  cases hf
  exact q_iret E hH dX6_unsee_45
def fX6_unsee (h : Nat) (Z : q_Z) (M : q_C) : Option (Int32 × q_C) :=
  q_gd (zK Z h == 16) <|
  if (1 : Int32) ≤ gI M h 3 then
    q_nm (sI M h 3 ((gI M h 3) - (1 : Int32))) fun M_2 =>
    Option.bind (fX6_isOfBase h (gI M_2 h 3) Z M_2) fun r_3 =>
    if r_3 = 0 then
      fX6_unsee_b41 h Z M_2
    else
      q_nm (sI M_2 h 4 (-1 : Int32)) fun M_6 =>
      q_nm (sI M_6 h 5 (-1 : Int32)) fun M_7 =>
      fX6_unsee_b41 h Z M_7
  else
    some ((-1 : Int32), M)
set_option maxHeartbeats 4000000 in
set_option maxRecDepth 100000 in
theorem bX6_unsee_0 {cells slots : Nat} (E : q_E p s m meth c cX6_unsee 1 RX6 (some .int) "unsee" D cA) (hR : 1 ≤ R.frames ∧ 21 ≤ R.locals) (hcc : cells ≤ R.cells ∧ slots ≤ R.slots) (h : Nat) (Z : q_Z) (M : q_C) (H : Heap) (locs : List Loc) (ls : Array Slot) (r : Int32) (M' : q_C) (hf : fX6_unsee h Z M = some (r, M')) (hH : q_Hh D cA z0 s Z M H locs) (hl : lv_has ls 1 [(0, .ref h)])  : W p l e R s m args below meth c H locs cells slots (MQ below (q_Q D cA z0 (some (.int r)) Z M') args s cells slots (fun q => z0 ≤ q)) (F0 m 0 ls []) := by
  have hx := E.1
  have hb := E.2.1
  have hown := E.2.2.2.1
  have hT := E.2.2.2.2.2.2.2.1
  unfold fX6_unsee at hf
  refine lv_aload_n hx hb dX6_unsee_0 rfl (lv_at hl 0 rfl) ?_
  obtain ⟨hk_1, hf⟩ := q_gdE hf
  have hk_1 := q_keq hk_1
  refine q_getI E hH (ci := 6) rfl 3 (by decide) kF_X6_25 (fun _ _ _ => rfl) hk_1 dX6_unsee_1 ?_
  refine lv_iconst (v := 1) hx hb dX6_unsee_4 (by decide) ?_
  refine lv_icmp_ge (tgt := 10) hx hb dX6_unsee_5 (by decide) (fun cc_9 => ?_) (fun cc_9 => ?_)
  · replace hf := q_ifT cc_9 hf
    clear cc_9
    refine lv_aload_n hx hb dX6_unsee_10 rfl (lv_at hl 0 rfl) ?_
    refine lv_dup hx hb dX6_unsee_11 rfl ?_
    refine q_getI E hH (ci := 6) rfl 3 (by decide) kF_X6_25 (fun _ _ _ => rfl) hk_1 dX6_unsee_12 ?_
    refine lv_iconst (v := 1) hx hb dX6_unsee_15 (by decide) ?_
    refine lv_isub hx hb dX6_unsee_16 ?_
    refine q_putI E hH (ci := 6) rfl 3 (by decide) kF_X6_25 rfl (fun _ _ _ => rfl) (x := (gI M h 3) - (1 : Int32)) hk_1 rfl rfl dX6_unsee_17 hf (fun M_2 H locs hH hf => ?_)
    refine lv_aload_n hx hb dX6_unsee_20 rfl (lv_at hl 0 rfl) ?_
    refine lv_aload_n hx hb dX6_unsee_21 rfl (lv_at hl 0 rfl) ?_
    refine q_getI E hH (ci := 6) rfl 3 (by decide) kF_X6_25 (fun _ _ _ => rfl) hk_1 dX6_unsee_22 ?_
    obtain ⟨r_3, hw_4, hf⟩ := q_biE hf
    refine q_cV (As := [.int (gI M_2 h 3)]) (rest := []) (st1 := [.int r_3]) E hH (tX6_isOfBase l D cA z0 h (gI M_2 h 3) Z M_2 r_3 hw_4) mw_X6_isOfBase mi_X6_isOfBase (ci := 6) rfl ms_X6_isOfBase kM_X6_128 hk_1 hcc rfl rfl rfl hl.1 rfl rfl (Nat.le_of_ble_eq_true rfl) ⟨Nat.le_trans (by decide) hR.1, Nat.le_trans (by decide) hR.2⟩ dX6_unsee_25 (fun H locs hH => ?_)
    refine lv_if_eq (tgt := 41) hx hb dX6_unsee_28 (by decide) (fun cc_8 => ?_) (fun cc_8 => ?_)
    · replace hf := q_ifT cc_8 hf
      clear cc_8
      exact bX6_unsee_41 E hR hcc h Z M_2 _ _ _ _ _ hf hH (lv_sub hl [0] rfl)
    · replace hf := q_ifF cc_8 hf
      clear cc_8
      refine lv_aload_n hx hb dX6_unsee_31 rfl (lv_at hl 0 rfl) ?_
      refine lv_iconst (v := -1) hx hb dX6_unsee_32 (by decide) ?_
      refine q_putI E hH (ci := 6) rfl 4 (by decide) kF_X6_29 rfl (fun _ _ _ => rfl) (x := (-1 : Int32)) hk_1 rfl rfl dX6_unsee_33 hf (fun M_6 H locs hH hf => ?_)
      refine lv_aload_n hx hb dX6_unsee_36 rfl (lv_at hl 0 rfl) ?_
      refine lv_iconst (v := -1) hx hb dX6_unsee_37 (by decide) ?_
      refine q_putI E hH (ci := 6) rfl 5 (by decide) kF_X6_32 rfl (fun _ _ _ => rfl) (x := (-1 : Int32)) hk_1 rfl rfl dX6_unsee_38 hf (fun M_7 H locs hH hf => ?_)
      exact bX6_unsee_41 E hR hcc h Z M_7 _ _ _ _ _ hf hH (lv_sub hl [0] rfl)
  · replace hf := q_ifF cc_9 hf
    clear cc_9
    refine lv_iconst (v := -1) hx hb dX6_unsee_8 (by decide) ?_
    cases hf
    exact q_iret E hH dX6_unsee_9
set_option maxRecDepth 100000 in
theorem tX6_unsee (l : Launch) (D : va_G) (cA : Nat → ClassId) (z0 : Nat) (h : Nat) (Z : q_Z) (M : q_C) (r : Int32) (M' : q_C) (hf : fX6_unsee h Z M = some (r, M')) : q_Ct l D cA z0 yX6_unsee cX6_unsee 1 (some .int) 1 21 [.ref h] Z M (some (.int r)) Z M' 0 0 := by
  (refine q_start (plainFor_of_name (by decide)) (Nat.le_of_ble_eq_true rfl) (fun p e s m below meth c H ls E hH hl => ?_); exact bX6_unsee_0 E ⟨Nat.le_refl _, Nat.le_refl _⟩ ⟨Nat.le_refl _, Nat.le_refl _⟩ h Z M H [] ls r M' hf hH hl)
def fX6_grid_b32 (h : Nat) (Z : q_Z) (M : q_C) : Option (Int32 × q_C) :=
  q_gd (decide ((0 : Int32) = 0) || decide ((0 : Int32) = 1)) <|
  some ((0 : Int32), M)
set_option maxHeartbeats 4000000 in
set_option maxRecDepth 100000 in
theorem bX6_grid_32 {cells slots : Nat} (E : q_E p s m meth c cX6_grid 4 RX6 (some .boolean) "grid" D cA) (hR : 1 ≤ R.frames ∧ 22 ≤ R.locals) (hcc : cells ≤ R.cells ∧ slots ≤ R.slots) (h : Nat) (Z : q_Z) (M : q_C) (H : Heap) (locs : List Loc) (ls : Array Slot) (r : Int32) (M' : q_C) (hf : fX6_grid_b32 h Z M = some (r, M')) (hH : q_Hh D cA z0 s Z M H locs) (hl : lv_has ls 4 [])  : W p l e R s m args below meth c H locs cells slots (MQ below (q_Q D cA z0 (some (.int r)) Z M') args s cells slots (fun q => z0 ≤ q)) (F0 m 32 ls []) := by
  have hx := E.1
  have hb := E.2.1
  have hown := E.2.2.2.1
  have hT := E.2.2.2.2.2.2.2.1
  unfold fX6_grid_b32 at hf
  refine lv_iconst (v := 0) hx hb dX6_grid_32 (by decide) ?_
  obtain ⟨hz_3, hf⟩ := q_gdE hf
  cases hf
  exact q_zret E hH hz_3 dX6_grid_33
def fX6_grid (h : Nat) (v1 : Int32) (v2 : Int32) (v3 : Int32) (Z : q_Z) (M : q_C) : Option (Int32 × q_C) :=
  Option.bind (fX6_isWithin v1 (1 : Int32) (20000 : Int32)) fun r_1 =>
  if r_1 = 0 then
    fX6_grid_b32 h Z M
  else
    Option.bind (fX6_isWithin v2 (1 : Int32) (2000 : Int32)) fun r_4 =>
    if r_4 = 0 then
      fX6_grid_b32 h Z M
    else
      Option.bind (fX6_isWithin v3 (1 : Int32) (10 : Int32)) fun r_6 =>
      if r_6 = 0 then
        fX6_grid_b32 h Z M
      else
        q_gd (zK Z h == 16) <|
        q_nm (sI M h 6 v1) fun M_9 =>
        q_nm (sI M_9 h 7 v2) fun M_10 =>
        q_nm (sI M_10 h 8 v3) fun M_11 =>
        q_gd (decide ((1 : Int32) = 0) || decide ((1 : Int32) = 1)) <|
        some ((1 : Int32), M_11)
set_option maxHeartbeats 4000000 in
set_option maxRecDepth 100000 in
theorem bX6_grid_0 {cells slots : Nat} (E : q_E p s m meth c cX6_grid 4 RX6 (some .boolean) "grid" D cA) (hR : 1 ≤ R.frames ∧ 22 ≤ R.locals) (hcc : cells ≤ R.cells ∧ slots ≤ R.slots) (h : Nat) (v1 : Int32) (v2 : Int32) (v3 : Int32) (Z : q_Z) (M : q_C) (H : Heap) (locs : List Loc) (ls : Array Slot) (r : Int32) (M' : q_C) (hf : fX6_grid h v1 v2 v3 Z M = some (r, M')) (hH : q_Hh D cA z0 s Z M H locs) (hl : lv_has ls 4 [(0, .ref h), (1, .int v1), (2, .int v2), (3, .int v3)])  : W p l e R s m args below meth c H locs cells slots (MQ below (q_Q D cA z0 (some (.int r)) Z M') args s cells slots (fun q => z0 ≤ q)) (F0 m 0 ls []) := by
  have hx := E.1
  have hb := E.2.1
  have hown := E.2.2.2.1
  have hT := E.2.2.2.2.2.2.2.1
  unfold fX6_grid at hf
  refine lv_iload_n hx hb dX6_grid_0 rfl (lv_at hl 1 rfl) ?_
  refine lv_iconst (v := 1) hx hb dX6_grid_1 (by decide) ?_
  refine lv_sipush (v := 20000) hx hb dX6_grid_2 (by decide) ?_
  obtain ⟨r_1, hw_2, hf⟩ := q_biE hf
  refine q_cS (As := [.int v1, .int (1 : Int32), .int (20000 : Int32)]) (rest := []) (st1 := [.int r_1]) E hH (tX6_isWithin l D cA z0 Z M v1 (1 : Int32) (20000 : Int32) r_1 hw_2) mw_X6_isWithin mi_X6_isWithin kM_X6_76 hcc rfl rfl rfl hl.1 rfl rfl (Nat.le_of_ble_eq_true rfl) ⟨Nat.le_trans (by decide) hR.1, Nat.le_trans (by decide) hR.2⟩ dX6_grid_5 (fun H locs hH => ?_)
  refine lv_if_eq (tgt := 32) hx hb dX6_grid_8 (by decide) (fun cc_15 => ?_) (fun cc_15 => ?_)
  · replace hf := q_ifT cc_15 hf
    clear cc_15
    exact bX6_grid_32 E hR hcc h Z M _ _ _ _ _ hf hH (lv_sub hl [] rfl)
  · replace hf := q_ifF cc_15 hf
    clear cc_15
    refine lv_iload_n hx hb dX6_grid_11 rfl (lv_at hl 2 rfl) ?_
    refine lv_iconst (v := 1) hx hb dX6_grid_12 (by decide) ?_
    refine lv_sipush (v := 2000) hx hb dX6_grid_13 (by decide) ?_
    obtain ⟨r_4, hw_5, hf⟩ := q_biE hf
    refine q_cS (As := [.int v2, .int (1 : Int32), .int (2000 : Int32)]) (rest := []) (st1 := [.int r_4]) E hH (tX6_isWithin l D cA z0 Z M v2 (1 : Int32) (2000 : Int32) r_4 hw_5) mw_X6_isWithin mi_X6_isWithin kM_X6_76 hcc rfl rfl rfl hl.1 rfl rfl (Nat.le_of_ble_eq_true rfl) ⟨Nat.le_trans (by decide) hR.1, Nat.le_trans (by decide) hR.2⟩ dX6_grid_16 (fun H locs hH => ?_)
    refine lv_if_eq (tgt := 32) hx hb dX6_grid_19 (by decide) (fun cc_14 => ?_) (fun cc_14 => ?_)
    · replace hf := q_ifT cc_14 hf
      clear cc_14
      exact bX6_grid_32 E hR hcc h Z M _ _ _ _ _ hf hH (lv_sub hl [] rfl)
    · replace hf := q_ifF cc_14 hf
      clear cc_14
      refine lv_iload_n hx hb dX6_grid_22 rfl (lv_at hl 3 rfl) ?_
      refine lv_iconst (v := 1) hx hb dX6_grid_23 (by decide) ?_
      refine lv_bipush (v := 10) hx hb dX6_grid_24 (by decide) ?_
      obtain ⟨r_6, hw_7, hf⟩ := q_biE hf
      refine q_cS (As := [.int v3, .int (1 : Int32), .int (10 : Int32)]) (rest := []) (st1 := [.int r_6]) E hH (tX6_isWithin l D cA z0 Z M v3 (1 : Int32) (10 : Int32) r_6 hw_7) mw_X6_isWithin mi_X6_isWithin kM_X6_76 hcc rfl rfl rfl hl.1 rfl rfl (Nat.le_of_ble_eq_true rfl) ⟨Nat.le_trans (by decide) hR.1, Nat.le_trans (by decide) hR.2⟩ dX6_grid_26 (fun H locs hH => ?_)
      refine lv_if_ne (tgt := 34) hx hb dX6_grid_29 (by decide) (fun cc_13 => ?_) (fun cc_13 => ?_)
      · replace hf := q_ifF cc_13 hf
        clear cc_13
        refine lv_aload_n hx hb dX6_grid_34 rfl (lv_at hl 0 rfl) ?_
        refine lv_iload_n hx hb dX6_grid_35 rfl (lv_at hl 1 rfl) ?_
        obtain ⟨hk_8, hf⟩ := q_gdE hf
        have hk_8 := q_keq hk_8
        refine q_putI E hH (ci := 6) rfl 6 (by decide) kF_X6_35 rfl (fun _ _ _ => rfl) (x := v1) hk_8 rfl rfl dX6_grid_36 hf (fun M_9 H locs hH hf => ?_)
        refine lv_aload_n hx hb dX6_grid_39 rfl (lv_at hl 0 rfl) ?_
        refine lv_iload_n hx hb dX6_grid_40 rfl (lv_at hl 2 rfl) ?_
        refine q_putI E hH (ci := 6) rfl 7 (by decide) kF_X6_38 rfl (fun _ _ _ => rfl) (x := v2) hk_8 rfl rfl dX6_grid_41 hf (fun M_10 H locs hH hf => ?_)
        refine lv_aload_n hx hb dX6_grid_44 rfl (lv_at hl 0 rfl) ?_
        refine lv_iload_n hx hb dX6_grid_45 rfl (lv_at hl 3 rfl) ?_
        refine q_putI E hH (ci := 6) rfl 8 (by decide) kF_X6_41 rfl (fun _ _ _ => rfl) (x := v3) hk_8 rfl rfl dX6_grid_46 hf (fun M_11 H locs hH hf => ?_)
        refine lv_iconst (v := 1) hx hb dX6_grid_49 (by decide) ?_
        obtain ⟨hz_12, hf⟩ := q_gdE hf
        cases hf
        exact q_zret E hH hz_12 dX6_grid_50
      · replace hf := q_ifT cc_13 hf
        clear cc_13
        exact bX6_grid_32 E hR hcc h Z M _ _ _ _ _ hf hH (lv_sub hl [] rfl)
set_option maxRecDepth 100000 in
theorem tX6_grid (l : Launch) (D : va_G) (cA : Nat → ClassId) (z0 : Nat) (h : Nat) (v1 : Int32) (v2 : Int32) (v3 : Int32) (Z : q_Z) (M : q_C) (r : Int32) (M' : q_C) (hf : fX6_grid h v1 v2 v3 Z M = some (r, M')) : q_Ct l D cA z0 yX6_grid cX6_grid 4 (some .boolean) 1 22 [.ref h, .int v1, .int v2, .int v3] Z M (some (.int r)) Z M' 0 0 := by
  (refine q_start (plainFor_of_name (by decide)) (Nat.le_of_ble_eq_true rfl) (fun p e s m below meth c H ls E hH hl => ?_); exact bX6_grid_0 E ⟨Nat.le_refl _, Nat.le_refl _⟩ ⟨Nat.le_refl _, Nat.le_refl _⟩ h _ _ _ Z M H [] ls r M' hf hH hl)
def fX6_base_b49 (h : Nat) (Z : q_Z) (M : q_C) : Option (Int32 × q_C) :=
  q_gd (decide ((0 : Int32) = 0) || decide ((0 : Int32) = 1)) <|
  some ((0 : Int32), M)
set_option maxHeartbeats 4000000 in
set_option maxRecDepth 100000 in
theorem bX6_base_49 {cells slots : Nat} (E : q_E p s m meth c cX6_base 5 RX6 (some .boolean) "base" D cA) (hR : 1 ≤ R.frames ∧ 21 ≤ R.locals) (hcc : cells ≤ R.cells ∧ slots ≤ R.slots) (h : Nat) (Z : q_Z) (M : q_C) (H : Heap) (locs : List Loc) (ls : Array Slot) (r : Int32) (M' : q_C) (hf : fX6_base_b49 h Z M = some (r, M')) (hH : q_Hh D cA z0 s Z M H locs) (hl : lv_has ls 5 [])  : W p l e R s m args below meth c H locs cells slots (MQ below (q_Q D cA z0 (some (.int r)) Z M') args s cells slots (fun q => z0 ≤ q)) (F0 m 49 ls []) := by
  have hx := E.1
  have hb := E.2.1
  have hown := E.2.2.2.1
  have hT := E.2.2.2.2.2.2.2.1
  unfold fX6_base_b49 at hf
  refine lv_iconst (v := 0) hx hb dX6_base_49 (by decide) ?_
  obtain ⟨hz_8, hf⟩ := q_gdE hf
  cases hf
  exact q_zret E hH hz_8 dX6_base_50
def fX6_base_b90 (h : Nat) (s0 : Int32) (s1 : Option Nat) (Z : q_Z) (M : q_C) : Option (Int32 × q_C) :=
  Option.bind s1 fun a_23 =>
  q_gd (zK Z a_23 == 16) <|
  q_nm (sI M a_23 5 s0) fun M_26 =>
  q_gd (decide ((1 : Int32) = 0) || decide ((1 : Int32) = 1)) <|
  some ((1 : Int32), M_26)
set_option maxHeartbeats 4000000 in
set_option maxRecDepth 100000 in
theorem bX6_base_90 {cells slots : Nat} (E : q_E p s m meth c cX6_base 5 RX6 (some .boolean) "base" D cA) (hR : 1 ≤ R.frames ∧ 21 ≤ R.locals) (hcc : cells ≤ R.cells ∧ slots ≤ R.slots) (h : Nat) (s0 : Int32) (s1 : Option Nat) (Z : q_Z) (M : q_C) (H : Heap) (locs : List Loc) (ls : Array Slot) (r : Int32) (M' : q_C) (hf : fX6_base_b90 h s0 s1 Z M = some (r, M')) (hH : q_Hh D cA z0 s Z M H locs) (hl : lv_has ls 5 [])  : W p l e R s m args below meth c H locs cells slots (MQ below (q_Q D cA z0 (some (.int r)) Z M') args s cells slots (fun q => z0 ≤ q)) (F0 m 90 ls [.int s0, va_rf s1]) := by
  have hx := E.1
  have hb := E.2.1
  have hown := E.2.2.2.1
  have hT := E.2.2.2.2.2.2.2.1
  unfold fX6_base_b90 at hf
  obtain ⟨a_23, he_24, hf⟩ := q_biE hf
  subst he_24
  obtain ⟨hk_25, hf⟩ := q_gdE hf
  have hk_25 := q_keq hk_25
  refine q_putI E hH (ci := 6) rfl 5 (by decide) kF_X6_32 rfl (fun _ _ _ => rfl) (x := s0) hk_25 rfl rfl dX6_base_90 hf (fun M_26 H locs hH hf => ?_)
  refine lv_iconst (v := 1) hx hb dX6_base_93 (by decide) ?_
  obtain ⟨hz_27, hf⟩ := q_gdE hf
  cases hf
  exact q_zret E hH hz_27 dX6_base_94
def fX6_base_b69 (h : Nat) (v1 : Int32) (v2 : Int32) (v3 : Option Nat) (v4 : Option Nat) (s0 : Int32) (s1 : Option Nat) (Z : q_Z) (M : q_C) : Option (Int32 × q_C) :=
  Option.bind s1 fun a_13 =>
  q_gd (zK Z a_13 == 16) <|
  q_nm (sI M a_13 4 s0) fun M_16 =>
  Option.bind v3 fun a_17 =>
  q_gd (zK Z a_17 == 12) <|
  Option.bind v4 fun a_20 =>
  q_gd (zK Z a_20 == 12) <|
  if gI M_16 a_20 1 ≤ gI M_16 a_17 1 then
    fX6_base_b90 h v1 (some h) Z M_16
  else
    fX6_base_b90 h v2 (some h) Z M_16
set_option maxHeartbeats 4000000 in
set_option maxRecDepth 100000 in
theorem bX6_base_69 {cells slots : Nat} (E : q_E p s m meth c cX6_base 5 RX6 (some .boolean) "base" D cA) (hR : 1 ≤ R.frames ∧ 21 ≤ R.locals) (hcc : cells ≤ R.cells ∧ slots ≤ R.slots) (h : Nat) (v1 : Int32) (v2 : Int32) (v3 : Option Nat) (v4 : Option Nat) (s0 : Int32) (s1 : Option Nat) (Z : q_Z) (M : q_C) (H : Heap) (locs : List Loc) (ls : Array Slot) (r : Int32) (M' : q_C) (hf : fX6_base_b69 h v1 v2 v3 v4 s0 s1 Z M = some (r, M')) (hH : q_Hh D cA z0 s Z M H locs) (hl : lv_has ls 5 [(0, .ref h), (1, .int v1), (2, .int v2), (3, va_rf v3), (4, va_rf v4)])  : W p l e R s m args below meth c H locs cells slots (MQ below (q_Q D cA z0 (some (.int r)) Z M') args s cells slots (fun q => z0 ≤ q)) (F0 m 69 ls [.int s0, va_rf s1]) := by
  have hx := E.1
  have hb := E.2.1
  have hown := E.2.2.2.1
  have hT := E.2.2.2.2.2.2.2.1
  unfold fX6_base_b69 at hf
  obtain ⟨a_13, he_14, hf⟩ := q_biE hf
  subst he_14
  obtain ⟨hk_15, hf⟩ := q_gdE hf
  have hk_15 := q_keq hk_15
  refine q_putI E hH (ci := 6) rfl 4 (by decide) kF_X6_29 rfl (fun _ _ _ => rfl) (x := s0) hk_15 rfl rfl dX6_base_69 hf (fun M_16 H locs hH hf => ?_)
  refine lv_aload_n hx hb dX6_base_72 rfl (lv_at hl 0 rfl) ?_
  refine q_aload_n hx hb dX6_base_73 rfl (lv_at hl 3 rfl) ?_
  obtain ⟨a_17, he_18, hf⟩ := q_biE hf
  subst he_18
  obtain ⟨hk_19, hf⟩ := q_gdE hf
  have hk_19 := q_keq hk_19
  refine q_getIN E hH (ci := 2) rfl 1 (by decide) kF_X6_112 (fun _ _ _ => rfl) hk_19 dX6_base_74 ?_
  refine q_aload hx hb dX6_base_77 (lv_at hl 4 rfl) ?_
  obtain ⟨a_20, he_21, hf⟩ := q_biE hf
  subst he_21
  obtain ⟨hk_22, hf⟩ := q_gdE hf
  have hk_22 := q_keq hk_22
  refine q_getIN E hH (ci := 2) rfl 1 (by decide) kF_X6_112 (fun _ _ _ => rfl) hk_22 dX6_base_79 ?_
  refine lv_icmp_ge (tgt := 89) hx hb dX6_base_82 (by decide) (fun cc_28 => ?_) (fun cc_28 => ?_)
  · replace hf := q_ifT cc_28 hf
    clear cc_28
    refine lv_iload_n hx hb dX6_base_89 rfl (lv_at hl 1 rfl) ?_
    exact bX6_base_90 E hR hcc h v1 (some h) Z M_16 _ _ _ _ _ hf hH (lv_sub hl [] rfl)
  · replace hf := q_ifF cc_28 hf
    clear cc_28
    refine lv_iload_n hx hb dX6_base_85 rfl (lv_at hl 2 rfl) ?_
    refine lv_goto (tgt := 90) hx hb dX6_base_86 (by decide) ?_
    exact bX6_base_90 E hR hcc h v2 (some h) Z M_16 _ _ _ _ _ hf hH (lv_sub hl [] rfl)
def fX6_base (h : Nat) (v1 : Int32) (v2 : Int32) (Z : q_Z) (M : q_C) : Option (Int32 × q_C) :=
  q_gd (zK Z h == 16) <|
  Option.bind (fX6_sightOf h v1 Z M) fun r_2 =>
  Option.bind (fX6_sightOf h v2 Z M) fun r_4 =>
  q_on r_2 (
    fX6_base_b49 h Z M
  ) fun a_7 =>
    q_on r_4 (
      fX6_base_b49 h Z M
    ) fun a_10 =>
      q_gd (zK Z a_7 == 12) <|
      if gI M a_7 0 = 0 then
        q_gd (zK Z a_10 == 12) <|
        if gI M a_10 0 = 0 then
          if gI M a_7 1 = gI M a_10 1 then
            fX6_base_b49 h Z M
          else
            if gI M a_10 1 ≤ gI M a_7 1 then
              fX6_base_b69 h v1 v2 (some a_7) (some a_10) v2 (some h) Z M
            else
              fX6_base_b69 h v1 v2 (some a_7) (some a_10) v1 (some h) Z M
        else
          fX6_base_b49 h Z M
      else
        fX6_base_b49 h Z M
set_option maxHeartbeats 4000000 in
set_option maxRecDepth 100000 in
theorem bX6_base_0 {cells slots : Nat} (E : q_E p s m meth c cX6_base 5 RX6 (some .boolean) "base" D cA) (hR : 1 ≤ R.frames ∧ 21 ≤ R.locals) (hcc : cells ≤ R.cells ∧ slots ≤ R.slots) (h : Nat) (v1 : Int32) (v2 : Int32) (Z : q_Z) (M : q_C) (H : Heap) (locs : List Loc) (ls : Array Slot) (r : Int32) (M' : q_C) (hf : fX6_base h v1 v2 Z M = some (r, M')) (hH : q_Hh D cA z0 s Z M H locs) (hl : lv_has ls 5 [(0, .ref h), (1, .int v1), (2, .int v2)])  : W p l e R s m args below meth c H locs cells slots (MQ below (q_Q D cA z0 (some (.int r)) Z M') args s cells slots (fun q => z0 ≤ q)) (F0 m 0 ls []) := by
  have hx := E.1
  have hb := E.2.1
  have hown := E.2.2.2.1
  have hT := E.2.2.2.2.2.2.2.1
  unfold fX6_base at hf
  refine lv_aload_n hx hb dX6_base_0 rfl (lv_at hl 0 rfl) ?_
  refine lv_iload_n hx hb dX6_base_1 rfl (lv_at hl 1 rfl) ?_
  obtain ⟨hk_1, hf⟩ := q_gdE hf
  have hk_1 := q_keq hk_1
  obtain ⟨r_2, hw_3, hf⟩ := q_biE hf
  refine q_cV (As := [.int v1]) (rest := []) (st1 := [va_rf r_2]) E hH (tX6_sightOf l D cA z0 h v1 Z M r_2 hw_3) mw_X6_sightOf mi_X6_sightOf (ci := 6) rfl ms_X6_sightOf kM_X6_124 hk_1 hcc rfl rfl rfl hl.1 rfl rfl (Nat.le_of_ble_eq_true rfl) ⟨Nat.le_trans (by decide) hR.1, Nat.le_trans (by decide) hR.2⟩ dX6_base_2 (fun H locs hH => ?_)
  refine q_astore_n (lv' := [(3, va_rf r_2), (0, .ref h), (1, .int v1), (2, .int v2)]) hx hb dX6_base_5 rfl hl (by decide) rfl (fun ls hl => ?_)
  refine lv_aload_n hx hb dX6_base_6 rfl (lv_at hl 1 rfl) ?_
  refine lv_iload_n hx hb dX6_base_7 rfl (lv_at hl 3 rfl) ?_
  obtain ⟨r_4, hw_5, hf⟩ := q_biE hf
  refine q_cV (As := [.int v2]) (rest := []) (st1 := [va_rf r_4]) E hH (tX6_sightOf l D cA z0 h v2 Z M r_4 hw_5) mw_X6_sightOf mi_X6_sightOf (ci := 6) rfl ms_X6_sightOf kM_X6_124 hk_1 hcc rfl rfl rfl hl.1 rfl rfl (Nat.le_of_ble_eq_true rfl) ⟨Nat.le_trans (by decide) hR.1, Nat.le_trans (by decide) hR.2⟩ dX6_base_8 (fun H locs hH => ?_)
  refine q_astore (lv' := [(4, va_rf r_4), (3, va_rf r_2), (0, .ref h), (1, .int v1), (2, .int v2)]) hx hb dX6_base_11 hl (by decide) (by simp [q_rfc] <;> rfl) (fun ls hl => ?_)
  refine q_aload_n hx hb dX6_base_13 rfl (lv_at hl 1 rfl) ?_
  refine q_ifnull (tgt := 49) hx hb dX6_base_14 (by decide) hf (fun cc_6 hf => ?_) (fun a_7 cc_6 hf => ?_)
  · subst cc_6
    exact bX6_base_49 E hR hcc h Z M _ _ _ _ _ hf hH (lv_sub hl [] rfl)
  · subst cc_6
    refine q_aload hx hb dX6_base_17 (lv_at hl 0 rfl) ?_
    refine q_ifnull (tgt := 49) hx hb dX6_base_19 (by decide) hf (fun cc_9 hf => ?_) (fun a_10 cc_9 hf => ?_)
    · subst cc_9
      exact bX6_base_49 E hR hcc h Z M _ _ _ _ _ hf hH (lv_sub hl [] rfl)
    · subst cc_9
      refine lv_aload_n hx hb dX6_base_22 rfl (lv_at hl 1 rfl) ?_
      obtain ⟨hk_11, hf⟩ := q_gdE hf
      have hk_11 := q_keq hk_11
      refine q_getIN E hH (ci := 2) rfl 0 (by decide) kF_X6_109 (fun _ _ _ => rfl) hk_11 dX6_base_23 ?_
      refine lv_if_ne (tgt := 49) hx hb dX6_base_26 (by decide) (fun cc_32 => ?_) (fun cc_32 => ?_)
      · replace hf := q_ifF cc_32 hf
        clear cc_32
        exact bX6_base_49 E hR hcc h Z M _ _ _ _ _ hf hH (lv_sub hl [] rfl)
      · replace hf := q_ifT cc_32 hf
        clear cc_32
        refine lv_aload hx hb dX6_base_29 (lv_at hl 0 rfl) ?_
        obtain ⟨hk_12, hf⟩ := q_gdE hf
        have hk_12 := q_keq hk_12
        refine q_getIN E hH (ci := 2) rfl 0 (by decide) kF_X6_109 (fun _ _ _ => rfl) hk_12 dX6_base_31 ?_
        refine lv_if_ne (tgt := 49) hx hb dX6_base_34 (by decide) (fun cc_31 => ?_) (fun cc_31 => ?_)
        · replace hf := q_ifF cc_31 hf
          clear cc_31
          exact bX6_base_49 E hR hcc h Z M _ _ _ _ _ hf hH (lv_sub hl [] rfl)
        · replace hf := q_ifT cc_31 hf
          clear cc_31
          refine lv_aload_n hx hb dX6_base_37 rfl (lv_at hl 1 rfl) ?_
          refine q_getIN E hH (ci := 2) rfl 1 (by decide) kF_X6_112 (fun _ _ _ => rfl) hk_11 dX6_base_38 ?_
          refine lv_aload hx hb dX6_base_41 (lv_at hl 0 rfl) ?_
          refine q_getIN E hH (ci := 2) rfl 1 (by decide) kF_X6_112 (fun _ _ _ => rfl) hk_12 dX6_base_43 ?_
          refine lv_icmp_ne (tgt := 51) hx hb dX6_base_46 (by decide) (fun cc_30 => ?_) (fun cc_30 => ?_)
          · replace hf := q_ifF cc_30 hf
            clear cc_30
            refine lv_aload_n hx hb dX6_base_51 rfl (lv_at hl 2 rfl) ?_
            refine lv_aload_n hx hb dX6_base_52 rfl (lv_at hl 1 rfl) ?_
            refine q_getIN E hH (ci := 2) rfl 1 (by decide) kF_X6_112 (fun _ _ _ => rfl) hk_11 dX6_base_53 ?_
            refine lv_aload hx hb dX6_base_56 (lv_at hl 0 rfl) ?_
            refine q_getIN E hH (ci := 2) rfl 1 (by decide) kF_X6_112 (fun _ _ _ => rfl) hk_12 dX6_base_58 ?_
            refine lv_icmp_ge (tgt := 68) hx hb dX6_base_61 (by decide) (fun cc_29 => ?_) (fun cc_29 => ?_)
            · replace hf := q_ifT cc_29 hf
              clear cc_29
              refine lv_iload_n hx hb dX6_base_68 rfl (lv_at hl 4 rfl) ?_
              exact bX6_base_69 E hR hcc h v1 v2 (some a_7) (some a_10) v2 (some h) Z M _ _ _ _ _ hf hH (lv_sub hl [2, 3, 4, 1, 0] rfl)
            · replace hf := q_ifF cc_29 hf
              clear cc_29
              refine lv_iload_n hx hb dX6_base_64 rfl (lv_at hl 3 rfl) ?_
              refine lv_goto (tgt := 69) hx hb dX6_base_65 (by decide) ?_
              exact bX6_base_69 E hR hcc h v1 v2 (some a_7) (some a_10) v1 (some h) Z M _ _ _ _ _ hf hH (lv_sub hl [2, 3, 4, 1, 0] rfl)
          · replace hf := q_ifT cc_30 hf
            clear cc_30
            exact bX6_base_49 E hR hcc h Z M _ _ _ _ _ hf hH (lv_sub hl [] rfl)
set_option maxRecDepth 100000 in
theorem tX6_base (l : Launch) (D : va_G) (cA : Nat → ClassId) (z0 : Nat) (h : Nat) (v1 : Int32) (v2 : Int32) (Z : q_Z) (M : q_C) (r : Int32) (M' : q_C) (hf : fX6_base h v1 v2 Z M = some (r, M')) : q_Ct l D cA z0 yX6_base cX6_base 5 (some .boolean) 1 21 [.ref h, .int v1, .int v2] Z M (some (.int r)) Z M' 0 0 := by
  (refine q_start (plainFor_of_name (by decide)) (Nat.le_of_ble_eq_true rfl) (fun p e s m below meth c H ls E hH hl => ?_); exact bX6_base_0 E ⟨Nat.le_refl _, Nat.le_refl _⟩ ⟨Nat.le_refl _, Nat.le_refl _⟩ h _ _ Z M H [] ls r M' hf hH hl)
def fX6_hasBase_b27 (h : Nat) (s0 : Int32) (Z : q_Z) (M : q_C) : Option (Int32) :=
  q_gd (decide (s0 = 0) || decide (s0 = 1)) <|
  some s0
set_option maxHeartbeats 4000000 in
set_option maxRecDepth 100000 in
theorem bX6_hasBase_27 {cells slots : Nat} (E : q_E p s m meth c cX6_hasBase 1 RX6 (some .boolean) "hasBase" D cA) (hR : 1 ≤ R.frames ∧ 21 ≤ R.locals) (hcc : cells ≤ R.cells ∧ slots ≤ R.slots) (h : Nat) (s0 : Int32) (Z : q_Z) (M : q_C) (H : Heap) (locs : List Loc) (ls : Array Slot) (r : Int32) (hf : fX6_hasBase_b27 h s0 Z M = some r) (hH : q_Hh D cA z0 s Z M H locs) (hl : lv_has ls 1 [])  : W p l e R s m args below meth c H locs cells slots (MQ below (q_Q D cA z0 (some (.int r)) Z M) args s cells slots (fun q => z0 ≤ q)) (F0 m 27 ls [.int s0]) := by
  have hx := E.1
  have hb := E.2.1
  have hown := E.2.2.2.1
  have hT := E.2.2.2.2.2.2.2.1
  unfold fX6_hasBase_b27 at hf
  obtain ⟨hz_6, hf⟩ := q_gdE hf
  cases hf
  exact q_zret E hH hz_6 dX6_hasBase_27
def fX6_hasBase_b26 (h : Nat) (Z : q_Z) (M : q_C) : Option (Int32) :=
  fX6_hasBase_b27 h (0 : Int32) Z M
set_option maxHeartbeats 4000000 in
set_option maxRecDepth 100000 in
theorem bX6_hasBase_26 {cells slots : Nat} (E : q_E p s m meth c cX6_hasBase 1 RX6 (some .boolean) "hasBase" D cA) (hR : 1 ≤ R.frames ∧ 21 ≤ R.locals) (hcc : cells ≤ R.cells ∧ slots ≤ R.slots) (h : Nat) (Z : q_Z) (M : q_C) (H : Heap) (locs : List Loc) (ls : Array Slot) (r : Int32) (hf : fX6_hasBase_b26 h Z M = some r) (hH : q_Hh D cA z0 s Z M H locs) (hl : lv_has ls 1 [])  : W p l e R s m args below meth c H locs cells slots (MQ below (q_Q D cA z0 (some (.int r)) Z M) args s cells slots (fun q => z0 ≤ q)) (F0 m 26 ls []) := by
  have hx := E.1
  have hb := E.2.1
  have hown := E.2.2.2.1
  have hT := E.2.2.2.2.2.2.2.1
  unfold fX6_hasBase_b26 at hf
  refine lv_iconst (v := 0) hx hb dX6_hasBase_26 (by decide) ?_
  exact bX6_hasBase_27 E hR hcc h (0 : Int32) Z M _ _ _ _ hf hH (lv_sub hl [] rfl)
def fX6_hasBase (h : Nat) (Z : q_Z) (M : q_C) : Option (Int32) :=
  q_gd (zK Z h == 16) <|
  Option.bind (fX6_sightOf h (gI M h 4) Z M) fun r_2 =>
  q_on r_2 (
    fX6_hasBase_b26 h Z M
  ) fun a_5 =>
    Option.bind (fX6_sightOf h (gI M h 5) Z M) fun r_7 =>
    q_on r_7 (
      fX6_hasBase_b26 h Z M
    ) fun a_10 =>
      fX6_hasBase_b27 h (1 : Int32) Z M
set_option maxHeartbeats 4000000 in
set_option maxRecDepth 100000 in
theorem bX6_hasBase_0 {cells slots : Nat} (E : q_E p s m meth c cX6_hasBase 1 RX6 (some .boolean) "hasBase" D cA) (hR : 1 ≤ R.frames ∧ 21 ≤ R.locals) (hcc : cells ≤ R.cells ∧ slots ≤ R.slots) (h : Nat) (Z : q_Z) (M : q_C) (H : Heap) (locs : List Loc) (ls : Array Slot) (r : Int32) (hf : fX6_hasBase h Z M = some r) (hH : q_Hh D cA z0 s Z M H locs) (hl : lv_has ls 1 [(0, .ref h)])  : W p l e R s m args below meth c H locs cells slots (MQ below (q_Q D cA z0 (some (.int r)) Z M) args s cells slots (fun q => z0 ≤ q)) (F0 m 0 ls []) := by
  have hx := E.1
  have hb := E.2.1
  have hown := E.2.2.2.1
  have hT := E.2.2.2.2.2.2.2.1
  unfold fX6_hasBase at hf
  refine lv_aload_n hx hb dX6_hasBase_0 rfl (lv_at hl 0 rfl) ?_
  refine lv_aload_n hx hb dX6_hasBase_1 rfl (lv_at hl 0 rfl) ?_
  obtain ⟨hk_1, hf⟩ := q_gdE hf
  have hk_1 := q_keq hk_1
  refine q_getI E hH (ci := 6) rfl 4 (by decide) kF_X6_29 (fun _ _ _ => rfl) hk_1 dX6_hasBase_2 ?_
  obtain ⟨r_2, hw_3, hf⟩ := q_biE hf
  refine q_cV (As := [.int (gI M h 4)]) (rest := []) (st1 := [va_rf r_2]) E hH (tX6_sightOf l D cA z0 h (gI M h 4) Z M r_2 hw_3) mw_X6_sightOf mi_X6_sightOf (ci := 6) rfl ms_X6_sightOf kM_X6_124 hk_1 hcc rfl rfl rfl hl.1 rfl rfl (Nat.le_of_ble_eq_true rfl) ⟨Nat.le_trans (by decide) hR.1, Nat.le_trans (by decide) hR.2⟩ dX6_hasBase_5 (fun H locs hH => ?_)
  refine q_ifnull (tgt := 26) hx hb dX6_hasBase_8 (by decide) hf (fun cc_4 hf => ?_) (fun a_5 cc_4 hf => ?_)
  · subst cc_4
    exact bX6_hasBase_26 E hR hcc h Z M _ _ _ _ hf hH (lv_sub hl [] rfl)
  · subst cc_4
    refine lv_aload_n hx hb dX6_hasBase_11 rfl (lv_at hl 0 rfl) ?_
    refine lv_aload_n hx hb dX6_hasBase_12 rfl (lv_at hl 0 rfl) ?_
    refine q_getI E hH (ci := 6) rfl 5 (by decide) kF_X6_32 (fun _ _ _ => rfl) hk_1 dX6_hasBase_13 ?_
    obtain ⟨r_7, hw_8, hf⟩ := q_biE hf
    refine q_cV (As := [.int (gI M h 5)]) (rest := []) (st1 := [va_rf r_7]) E hH (tX6_sightOf l D cA z0 h (gI M h 5) Z M r_7 hw_8) mw_X6_sightOf mi_X6_sightOf (ci := 6) rfl ms_X6_sightOf kM_X6_124 hk_1 hcc rfl rfl rfl hl.1 rfl rfl (Nat.le_of_ble_eq_true rfl) ⟨Nat.le_trans (by decide) hR.1, Nat.le_trans (by decide) hR.2⟩ dX6_hasBase_16 (fun H locs hH => ?_)
    refine q_ifnull (tgt := 26) hx hb dX6_hasBase_19 (by decide) hf (fun cc_9 hf => ?_) (fun a_10 cc_9 hf => ?_)
    · subst cc_9
      exact bX6_hasBase_26 E hR hcc h Z M _ _ _ _ hf hH (lv_sub hl [] rfl)
    · subst cc_9
      refine lv_iconst (v := 1) hx hb dX6_hasBase_22 (by decide) ?_
      refine lv_goto (tgt := 27) hx hb dX6_hasBase_23 (by decide) ?_
      exact bX6_hasBase_27 E hR hcc h (1 : Int32) Z M _ _ _ _ hf hH (lv_sub hl [] rfl)
set_option maxRecDepth 100000 in
theorem tX6_hasBase (l : Launch) (D : va_G) (cA : Nat → ClassId) (z0 : Nat) (h : Nat) (Z : q_Z) (M : q_C) (r : Int32) (hf : fX6_hasBase h Z M = some r) : q_Ct l D cA z0 yX6_hasBase cX6_hasBase 1 (some .boolean) 1 21 [.ref h] Z M (some (.int r)) Z M 0 0 := by
  (refine q_start (plainFor_of_name (by decide)) (Nat.le_of_ble_eq_true rfl) (fun p e s m below meth c H ls E hH hl => ?_); exact bX6_hasBase_0 E ⟨Nat.le_refl _, Nat.le_refl _⟩ ⟨Nat.le_refl _, Nat.le_refl _⟩ h Z M H [] ls r hf hH hl)
def fX6_gridDistance (h : Nat) (v1 : Int32) (Z : q_Z) (M : q_C) : Option (Int32) :=
  q_gd (zK Z h == 16) <|
  some ((gI M h 6) + ((gI M h 7) * v1))
set_option maxHeartbeats 4000000 in
set_option maxRecDepth 100000 in
theorem bX6_gridDistance_0 {cells slots : Nat} (E : q_E p s m meth c cX6_gridDistance 2 RX6 (some .int) "gridDistance" D cA) (hR : 0 ≤ R.frames ∧ 0 ≤ R.locals) (hcc : cells ≤ R.cells ∧ slots ≤ R.slots) (h : Nat) (v1 : Int32) (Z : q_Z) (M : q_C) (H : Heap) (locs : List Loc) (ls : Array Slot) (r : Int32) (hf : fX6_gridDistance h v1 Z M = some r) (hH : q_Hh D cA z0 s Z M H locs) (hl : lv_has ls 2 [(0, .ref h), (1, .int v1)])  : W p l e R s m args below meth c H locs cells slots (MQ below (q_Q D cA z0 (some (.int r)) Z M) args s cells slots (fun q => z0 ≤ q)) (F0 m 0 ls []) := by
  have hx := E.1
  have hb := E.2.1
  have hown := E.2.2.2.1
  have hT := E.2.2.2.2.2.2.2.1
  unfold fX6_gridDistance at hf
  refine lv_aload_n hx hb dX6_gridDistance_0 rfl (lv_at hl 0 rfl) ?_
  obtain ⟨hk_1, hf⟩ := q_gdE hf
  have hk_1 := q_keq hk_1
  refine q_getI E hH (ci := 6) rfl 6 (by decide) kF_X6_35 (fun _ _ _ => rfl) hk_1 dX6_gridDistance_1 ?_
  refine lv_aload_n hx hb dX6_gridDistance_4 rfl (lv_at hl 0 rfl) ?_
  refine q_getI E hH (ci := 6) rfl 7 (by decide) kF_X6_38 (fun _ _ _ => rfl) hk_1 dX6_gridDistance_5 ?_
  refine lv_iload_n hx hb dX6_gridDistance_8 rfl (lv_at hl 1 rfl) ?_
  refine lv_imul hx hb dX6_gridDistance_9 ?_
  refine lv_iadd hx hb dX6_gridDistance_10 ?_
  cases hf
  exact q_iret E hH dX6_gridDistance_11
set_option maxRecDepth 100000 in
theorem tX6_gridDistance (l : Launch) (D : va_G) (cA : Nat → ClassId) (z0 : Nat) (h : Nat) (v1 : Int32) (Z : q_Z) (M : q_C) (r : Int32) (hf : fX6_gridDistance h v1 Z M = some r) : q_Ct l D cA z0 yX6_gridDistance cX6_gridDistance 2 (some .int) 0 0 [.ref h, .int v1] Z M (some (.int r)) Z M 0 0 := by
  (refine q_start (plainFor_of_name (by decide)) (Nat.le_of_ble_eq_true rfl) (fun p e s m below meth c H ls E hH hl => ?_); exact bX6_gridDistance_0 E ⟨Nat.le_refl _, Nat.le_refl _⟩ ⟨Nat.le_refl _, Nat.le_refl _⟩ h _ Z M H [] ls r hf hH hl)
def fX6_aim_b40 (h : Nat) (Z : q_Z) (M : q_C) : Option (Int32 × q_C) :=
  q_gd (decide ((0 : Int32) = 0) || decide ((0 : Int32) = 1)) <|
  some ((0 : Int32), M)
set_option maxHeartbeats 4000000 in
set_option maxRecDepth 100000 in
theorem bX6_aim_40 {cells slots : Nat} (E : q_E p s m meth c cX6_aim 9 RX6 (some .boolean) "aim" D cA) (hR : 4 ≤ R.frames ∧ 104 ≤ R.locals) (hcc : cells ≤ R.cells ∧ slots ≤ R.slots) (h : Nat) (Z : q_Z) (M : q_C) (H : Heap) (locs : List Loc) (ls : Array Slot) (r : Int32) (M' : q_C) (hf : fX6_aim_b40 h Z M = some (r, M')) (hH : q_Hh D cA z0 s Z M H locs) (hl : lv_has ls 9 [])  : W p l e R s m args below meth c H locs cells slots (MQ below (q_Q D cA z0 (some (.int r)) Z M') args s cells slots (fun q => z0 ≤ q)) (F0 m 40 ls []) := by
  have hx := E.1
  have hb := E.2.1
  have hown := E.2.2.2.1
  have hT := E.2.2.2.2.2.2.2.1
  unfold fX6_aim_b40 at hf
  refine lv_iconst (v := 0) hx hb dX6_aim_40 (by decide) ?_
  obtain ⟨hz_8, hf⟩ := q_gdE hf
  cases hf
  exact q_zret E hH hz_8 dX6_aim_41
def fX6_aim_L260 (h : Nat) (v4 : Option Nat) (v5 : Int32) (v6 : Int32) (v7 : Int32) (v8 : Int32) (Z : q_Z) (M : q_C) : Option ((Int32 × q_C) ⊕ (q_C ⊕ q_C)) :=
  if (3 : Int32) ≤ v8 then
    some (Sum.inr (Sum.inr M))
  else
    q_gd (zK Z h == 16) <|
    Option.bind (gR M h 12) fun a_104 =>
    Option.bind (gR M h 13) fun a_106 =>
    q_gd (zK Z a_104 == 10) <|
    Option.bind (fX0_begin a_104 (some a_106) Z M) fun M_110 =>
    Option.bind (gR M_110 h 12) fun a_111 =>
    Option.bind (gR M_110 h 0) fun a_113 =>
    Option.bind v4 fun a_115 =>
    q_gd (zK Z a_115 == 12) <|
    q_gd (zK Z a_111 == 10) <|
    Option.bind (fX0_go a_111 (some a_113) (gI M_110 a_115 1) Z M_110) fun M_120 =>
    Option.bind (gR M_120 h 12) fun a_121 =>
    q_gd (zK Z a_121 == 10) <|
    if gI M_120 a_121 5 = 0 then
      Option.bind (gR M_120 h 13) fun a_124 =>
      q_gd (zK Z a_124 == 15) <|
      Option.bind (gR M_120 h 12) fun a_127 =>
      q_gd (zK Z a_127 == 10) <|
      q_gd (!(decide (v5.toInt64 = 0))) <|
      q_nm (sI M_120 a_124 4 ((gI M_120 a_124 4) + (((v6.toInt64 - (gJ M_120 a_127 0)) / v5.toInt64).toInt32))) fun M_131 =>
      Option.bind (gR M_131 h 13) fun a_132 =>
      q_gd (zK Z a_132 == 15) <|
      Option.bind (gR M_131 h 12) fun a_135 =>
      q_gd (zK Z a_135 == 10) <|
      q_gd (!(decide (v5.toInt64 = 0))) <|
      q_nm (sI M_131 a_132 5 ((gI M_131 a_132 5) + (((v7.toInt64 - (gJ M_131 a_135 1)) / v5.toInt64).toInt32))) fun M_139 =>
      q_nm (v8 + (1 : Int32)) fun v8_140 =>
      some (Sum.inl (v8_140, M_139))
    else
      some (Sum.inr (Sum.inl M_120))
set_option maxHeartbeats 4000000 in
set_option maxRecDepth 100000 in
theorem lX6_aim_260 {cells slots : Nat} {Q : State → Prop} (E : q_E p s m meth c cX6_aim 9 RX6 (some .boolean) "aim" D cA) (hR : 4 ≤ R.frames ∧ 104 ≤ R.locals) (hcc : cells ≤ R.cells ∧ slots ≤ R.slots)  (h : Nat) (v4 : Option Nat) (v5 : Int32) (v6 : Int32) (v7 : Int32) (Z : q_Z) : ∀ (n : Nat) (v8 : Int32) (M : q_C) (H : Heap) (locs : List Loc) (ls : Array Slot) (r : q_C ⊕ q_C), q_it (fun x => fX6_aim_L260 h v4 v5 v6 v7 x.1 Z x.2) n (v8, M) = some r → q_Hh D cA z0 s Z M H locs → lv_has ls 9 [(0, .ref h), (4, va_rf v4), (5, .int v5), (6, .int v6), (7, .int v7), (8, .int v8)] → (kx0 : ∀ (M1 : q_C) (H : Heap) (locs : List Loc) (ls : Array Slot), (Sum.inl M1) = r → q_Hh D cA z0 s Z M1 H locs → lv_has ls 9 [] → W p l e R s m args below meth c H locs cells slots Q (F0 m 303 ls [])) → (kx1 : ∀ (M1 : q_C) (H : Heap) (locs : List Loc) (ls : Array Slot), (Sum.inr M1) = r → q_Hh D cA z0 s Z M1 H locs → lv_has ls 9 [] → W p l e R s m args below meth c H locs cells slots Q (F0 m 367 ls [])) → W p l e R s m args below meth c H locs cells slots Q (F0 m 260 ls []) := by
  have hx := E.1
  have hb := E.2.1
  have hown := E.2.2.2.1
  have hT := E.2.2.2.2.2.2.2.1
  intro n
  induction n with
  | zero =>
    intro v8 M H locs ls r hf
    cases hf
  | succ n ih =>
    intro v8 M H locs ls r hf hH hl ky0 ky1
    obtain ⟨n1, o, hn, hf, ho⟩ := q_itE hf
    cases hn
    have hf : fX6_aim_L260 h v4 v5 v6 v7 v8 Z M = some o := hf
    have kb : ∀ (w8 : Int32) (M1 : q_C) (H : Heap) (locs : List Loc) (ls : Array Slot), Sum.inl (w8, M1) = o → q_Hh D cA z0 s Z M1 H locs → lv_has ls 9 [(0, .ref h), (4, va_rf v4), (5, .int v5), (6, .int v6), (7, .int v7), (8, .int w8)] → W p l e R s m args below meth c H locs cells slots Q (F0 m 260 ls []) := by
      intro w8 M1 H locs ls e hH hl
      subst e
      exact ih w8 M1 H locs ls r ho hH hl ky0 ky1
    have kx0 : ∀ (M1 : q_C) (H : Heap) (locs : List Loc) (ls : Array Slot), Sum.inr (Sum.inl M1) = o → q_Hh D cA z0 s Z M1 H locs → lv_has ls 9 [] → W p l e R s m args below meth c H locs cells slots Q (F0 m 303 ls []) := by
      intro M1 H locs ls e hH hl
      subst e
      exact ky0 M1 H locs ls ho hH hl
    have kx1 : ∀ (M1 : q_C) (H : Heap) (locs : List Loc) (ls : Array Slot), Sum.inr (Sum.inr M1) = o → q_Hh D cA z0 s Z M1 H locs → lv_has ls 9 [] → W p l e R s m args below meth c H locs cells slots Q (F0 m 367 ls []) := by
      intro M1 H locs ls e hH hl
      subst e
      exact ky1 M1 H locs ls ho hH hl
    unfold fX6_aim_L260 at hf
    refine lv_iload hx hb dX6_aim_260 (lv_at hl 5 rfl) ?_
    refine lv_iconst (v := 3) hx hb dX6_aim_262 (by decide) ?_
    refine lv_icmp_ge (tgt := 367) hx hb dX6_aim_263 (by decide) (fun cc_143 => ?_) (fun cc_143 => ?_)
    · replace hf := q_ifT cc_143 hf
      clear cc_143
      cases hf
      exact kx1 M _ _ _ rfl hH (lv_sub hl [] rfl)
    · replace hf := q_ifF cc_143 hf
      clear cc_143
      refine lv_aload_n hx hb dX6_aim_266 rfl (lv_at hl 0 rfl) ?_
      obtain ⟨hk_103, hf⟩ := q_gdE hf
      have hk_103 := q_keq hk_103
      refine q_getR E hH (ci := 6) rfl 12 (by decide) kF_X6_59 (fun _ _ _ => rfl) hk_103 dX6_aim_267 ?_
      obtain ⟨a_104, he_105, hf⟩ := q_biE hf
      rw [he_105]
      refine lv_aload_n hx hb dX6_aim_270 rfl (lv_at hl 0 rfl) ?_
      refine q_getR E hH (ci := 6) rfl 13 (by decide) kF_X6_64 (fun _ _ _ => rfl) hk_103 dX6_aim_271 ?_
      obtain ⟨a_106, he_107, hf⟩ := q_biE hf
      rw [he_107]
      obtain ⟨hk_108, hf⟩ := q_gdE hf
      have hk_108 := q_keq hk_108
      obtain ⟨M_110, hw_109, hf⟩ := q_biE hf
      refine q_cV (As := [.ref a_106]) (rest := []) (st1 := []) E hH (tX0_begin l D cA z0 a_104 (some a_106) Z M M_110 hw_109) mw_X0_begin mi_X0_begin (ci := 0) rfl ms_X0_begin kM_X6_242 hk_108 hcc rfl rfl rfl hl.1 rfl rfl (Nat.le_of_ble_eq_true rfl) ⟨Nat.le_trans (by decide) hR.1, Nat.le_trans (by decide) hR.2⟩ dX6_aim_274 (fun H locs hH => ?_)
      refine lv_aload_n hx hb dX6_aim_277 rfl (lv_at hl 0 rfl) ?_
      refine q_getR E hH (ci := 6) rfl 12 (by decide) kF_X6_59 (fun _ _ _ => rfl) hk_103 dX6_aim_278 ?_
      obtain ⟨a_111, he_112, hf⟩ := q_biE hf
      rw [he_112]
      refine lv_aload_n hx hb dX6_aim_281 rfl (lv_at hl 0 rfl) ?_
      refine q_getR E hH (ci := 6) rfl 0 (by decide) kF_X6_12 (fun _ _ _ => rfl) hk_103 dX6_aim_282 ?_
      obtain ⟨a_113, he_114, hf⟩ := q_biE hf
      rw [he_114]
      refine q_aload hx hb dX6_aim_285 (lv_at hl 1 rfl) ?_
      obtain ⟨a_115, he_116, hf⟩ := q_biE hf
      subst he_116
      obtain ⟨hk_117, hf⟩ := q_gdE hf
      have hk_117 := q_keq hk_117
      refine q_getIN E hH (ci := 2) rfl 1 (by decide) kF_X6_112 (fun _ _ _ => rfl) hk_117 dX6_aim_287 ?_
      obtain ⟨hk_118, hf⟩ := q_gdE hf
      have hk_118 := q_keq hk_118
      obtain ⟨M_120, hw_119, hf⟩ := q_biE hf
      refine q_cV (As := [.ref a_113, .int (gI M_110 a_115 1)]) (rest := []) (st1 := []) E hH (tX0_go l D cA z0 a_111 (some a_113) (gI M_110 a_115 1) Z M_110 M_120 hw_119) mw_X0_go mi_X0_go (ci := 0) rfl ms_X0_go kM_X6_245 hk_118 hcc rfl rfl rfl hl.1 rfl rfl (Nat.le_of_ble_eq_true rfl) ⟨Nat.le_trans (by decide) hR.1, Nat.le_trans (by decide) hR.2⟩ dX6_aim_290 (fun H locs hH => ?_)
      refine lv_aload_n hx hb dX6_aim_293 rfl (lv_at hl 0 rfl) ?_
      refine q_getR E hH (ci := 6) rfl 12 (by decide) kF_X6_59 (fun _ _ _ => rfl) hk_103 dX6_aim_294 ?_
      obtain ⟨a_121, he_122, hf⟩ := q_biE hf
      rw [he_122]
      obtain ⟨hk_123, hf⟩ := q_gdE hf
      have hk_123 := q_keq hk_123
      refine q_getIN E hH (ci := 0) rfl 5 (by decide) kF_X6_249 (fun _ _ _ => rfl) hk_123 dX6_aim_297 ?_
      refine lv_if_eq (tgt := 305) hx hb dX6_aim_300 (by decide) (fun cc_142 => ?_) (fun cc_142 => ?_)
      · replace hf := q_ifT cc_142 hf
        clear cc_142
        refine lv_aload_n hx hb dX6_aim_305 rfl (lv_at hl 0 rfl) ?_
        refine q_getR E hH (ci := 6) rfl 13 (by decide) kF_X6_64 (fun _ _ _ => rfl) hk_103 dX6_aim_306 ?_
        obtain ⟨a_124, he_125, hf⟩ := q_biE hf
        rw [he_125]
        refine lv_dup hx hb dX6_aim_309 rfl ?_
        obtain ⟨hk_126, hf⟩ := q_gdE hf
        have hk_126 := q_keq hk_126
        refine q_getIN E hH (ci := 5) rfl 4 (by decide) kF_X6_160 (fun _ _ _ => rfl) hk_126 dX6_aim_310 ?_
        refine lv_iload hx hb dX6_aim_313 (lv_at hl 3 rfl) ?_
        refine lv_i2l hx hb dX6_aim_315 rfl ?_
        refine lv_aload_n hx hb dX6_aim_316 rfl (lv_at hl 0 rfl) ?_
        refine q_getR E hH (ci := 6) rfl 12 (by decide) kF_X6_59 (fun _ _ _ => rfl) hk_103 dX6_aim_317 ?_
        obtain ⟨a_127, he_128, hf⟩ := q_biE hf
        rw [he_128]
        obtain ⟨hk_129, hf⟩ := q_gdE hf
        have hk_129 := q_keq hk_129
        refine q_getJN E hH (ci := 0) rfl 0 (by decide) kF_X6_253 (fun _ _ _ => rfl) hk_129 dX6_aim_320 ?_
        refine lv_lsub hx hb dX6_aim_323 ?_
        refine lv_iload hx hb dX6_aim_324 (lv_at hl 2 rfl) ?_
        refine lv_i2l hx hb dX6_aim_326 rfl ?_
        obtain ⟨hz_130, hf⟩ := q_gdE hf
        refine lv_ldiv hx hb dX6_aim_327 (by simpa using hz_130) ?_
        refine lv_l2i hx hb dX6_aim_328 rfl ?_
        refine lv_iadd hx hb dX6_aim_329 ?_
        refine q_putIN E hH (ci := 5) rfl 4 (by decide) kF_X6_160 rfl (fun _ _ _ => rfl) (x := (gI M_120 a_124 4) + (((v6.toInt64 - (gJ M_120 a_127 0)) / v5.toInt64).toInt32)) hk_126 rfl rfl dX6_aim_330 hf (fun M_131 H locs hH hf => ?_)
        refine lv_aload_n hx hb dX6_aim_333 rfl (lv_at hl 0 rfl) ?_
        refine q_getR E hH (ci := 6) rfl 13 (by decide) kF_X6_64 (fun _ _ _ => rfl) hk_103 dX6_aim_334 ?_
        obtain ⟨a_132, he_133, hf⟩ := q_biE hf
        rw [he_133]
        refine lv_dup hx hb dX6_aim_337 rfl ?_
        obtain ⟨hk_134, hf⟩ := q_gdE hf
        have hk_134 := q_keq hk_134
        refine q_getIN E hH (ci := 5) rfl 5 (by decide) kF_X6_163 (fun _ _ _ => rfl) hk_134 dX6_aim_338 ?_
        refine lv_iload hx hb dX6_aim_341 (lv_at hl 4 rfl) ?_
        refine lv_i2l hx hb dX6_aim_343 rfl ?_
        refine lv_aload_n hx hb dX6_aim_344 rfl (lv_at hl 0 rfl) ?_
        refine q_getR E hH (ci := 6) rfl 12 (by decide) kF_X6_59 (fun _ _ _ => rfl) hk_103 dX6_aim_345 ?_
        obtain ⟨a_135, he_136, hf⟩ := q_biE hf
        rw [he_136]
        obtain ⟨hk_137, hf⟩ := q_gdE hf
        have hk_137 := q_keq hk_137
        refine q_getJN E hH (ci := 0) rfl 1 (by decide) kF_X6_255 (fun _ _ _ => rfl) hk_137 dX6_aim_348 ?_
        refine lv_lsub hx hb dX6_aim_351 ?_
        refine lv_iload hx hb dX6_aim_352 (lv_at hl 2 rfl) ?_
        refine lv_i2l hx hb dX6_aim_354 rfl ?_
        obtain ⟨hz_138, hf⟩ := q_gdE hf
        refine lv_ldiv hx hb dX6_aim_355 (by simpa using hz_138) ?_
        refine lv_l2i hx hb dX6_aim_356 rfl ?_
        refine lv_iadd hx hb dX6_aim_357 ?_
        refine q_putIN E hH (ci := 5) rfl 5 (by decide) kF_X6_163 rfl (fun _ _ _ => rfl) (x := (gI M_131 a_132 5) + (((v7.toInt64 - (gJ M_131 a_135 1)) / v5.toInt64).toInt32)) hk_134 rfl rfl dX6_aim_358 hf (fun M_139 H locs hH hf => ?_)
        obtain ⟨v8_140, hn_141⟩ : ∃ y : Int32, y = v8 + (1 : Int32) := ⟨_, rfl⟩
        replace hf := q_nmE hn_141 hf
        refine lv_iinc (v := v8_140) (lv' := [(8, .int v8_140), (0, .ref h), (4, .ref a_115), (5, .int v5), (6, .int v6), (7, .int v7)]) hx hb dX6_aim_361 hl (k := 5) rfl (by rw [hn_141]; rfl) (by decide) rfl (fun ls hl => ?_)
        clear hn_141
        refine lv_goto (tgt := 260) hx hb dX6_aim_364 (by decide) ?_
        cases hf
        exact kb v8_140 M_139 _ _ _ rfl hH (lv_sub hl [1, 2, 3, 4, 5, 0] rfl)
      · replace hf := q_ifF cc_142 hf
        clear cc_142
        cases hf
        exact kx0 M_120 _ _ _ rfl hH (lv_sub hl [] rfl)
def fX6_aim (h : Nat) (v1 : Int32) (v2 : Int32) (Z : q_Z) (M : q_C) : Option (Int32 × q_C) :=
  q_gd (zK Z h == 16) <|
  Option.bind (fX6_sightOf h (gI M h 4) Z M) fun r_2 =>
  Option.bind (fX6_sightOf h (gI M h 5) Z M) fun r_4 =>
  q_on r_2 (
    fX6_aim_b40 h Z M
  ) fun a_7 =>
    q_on r_4 (
      fX6_aim_b40 h Z M
    ) fun a_10 =>
      q_gd (zK Z a_10 == 12) <|
      q_gd (zK Z a_7 == 12) <|
      if gI M a_7 1 < gI M a_10 1 then
        q_nm ((gI M a_10 1) - (gI M a_7 1)) fun v5_13 =>
        Option.bind (gR M h 0) fun a_15 =>
        q_gd (zK Z a_15 == 13) <|
        Option.bind (gR M a_15 0) fun a_18 =>
        q_gd (zK Z a_18 == 14) <|
        Option.bind (fX4_xAt a_18 (gI M a_10 1) Z M) fun r_21 =>
        Option.bind (fX6_gridDistance h v2 Z M) fun r_23 =>
        Option.bind (fX2_part a_10 (gI M a_10 2) r_23 Z M) fun r_25 =>
        q_nm (r_21 + r_25) fun v6_27 =>
        Option.bind (gR M h 0) fun a_29 =>
        q_gd (zK Z a_29 == 13) <|
        Option.bind (gR M a_29 0) fun a_32 =>
        q_gd (zK Z a_32 == 14) <|
        Option.bind (fX4_yAt a_32 (gI M a_10 1) Z M) fun r_35 =>
        Option.bind (fX6_gridDistance h v2 Z M) fun r_37 =>
        Option.bind (fX2_part a_10 (gI M a_10 3) r_37 Z M) fun r_39 =>
        q_nm (r_35 + r_39) fun v7_41 =>
        Option.bind (gR M h 13) fun a_43 =>
        q_gd (zK Z a_43 == 15) <|
        q_nm (sI M a_43 0 v1) fun M_46 =>
        Option.bind (gR M_46 h 13) fun a_47 =>
        q_gd (zK Z a_47 == 15) <|
        q_nm (sI M_46 a_47 1 v2) fun M_50 =>
        Option.bind (gR M_50 h 13) fun a_51 =>
        q_gd (zK Z a_51 == 15) <|
        q_nm (sI M_50 a_51 6 (gI M_50 a_7 1)) fun M_54 =>
        Option.bind (gR M_54 h 13) fun a_55 =>
        Option.bind (gR M_54 h 0) fun a_57 =>
        q_gd (zK Z a_57 == 13) <|
        Option.bind (gR M_54 a_57 0) fun a_60 =>
        q_gd (zK Z a_60 == 14) <|
        Option.bind (fX4_xAt a_60 (gI M_54 a_7 1) Z M_54) fun r_63 =>
        Option.bind (fX6_gridDistance h v1 Z M_54) fun r_65 =>
        Option.bind (fX2_part a_7 (gI M_54 a_7 2) r_65 Z M_54) fun r_67 =>
        q_gd (zK Z a_55 == 15) <|
        q_nm (sI M_54 a_55 2 (r_63 + r_67)) fun M_70 =>
        Option.bind (gR M_70 h 13) fun a_71 =>
        Option.bind (gR M_70 h 0) fun a_73 =>
        q_gd (zK Z a_73 == 13) <|
        Option.bind (gR M_70 a_73 0) fun a_76 =>
        q_gd (zK Z a_76 == 14) <|
        Option.bind (fX4_yAt a_76 (gI M_70 a_7 1) Z M_70) fun r_79 =>
        Option.bind (fX6_gridDistance h v1 Z M_70) fun r_81 =>
        Option.bind (fX2_part a_7 (gI M_70 a_7 3) r_81 Z M_70) fun r_83 =>
        q_gd (zK Z a_71 == 15) <|
        q_nm (sI M_70 a_71 3 (r_79 + r_83)) fun M_86 =>
        Option.bind (gR M_86 h 13) fun a_87 =>
        Option.bind (gR M_86 h 13) fun a_89 =>
        q_gd (zK Z a_89 == 15) <|
        q_gd (!(decide (v5_13 = 0))) <|
        q_gd (zK Z a_87 == 15) <|
        q_nm (sI M_86 a_87 4 ((v6_27 - (gI M_86 a_89 2)) / v5_13)) fun M_94 =>
        Option.bind (gR M_94 h 13) fun a_95 =>
        Option.bind (gR M_94 h 13) fun a_97 =>
        q_gd (zK Z a_97 == 15) <|
        q_gd (!(decide (v5_13 = 0))) <|
        q_gd (zK Z a_95 == 15) <|
        q_nm (sI M_94 a_95 5 ((v7_41 - (gI M_94 a_97 3)) / v5_13)) fun M_102 =>
        Option.bind (q_it (fun x => fX6_aim_L260 h (some a_10) v5_13 v6_27 v7_41 x.1 Z x.2) q_FU ((0 : Int32), M_102)) fun r_144 =>
        q_sm r_144 (fun e_146 =>
          q_nm e_146 fun M_147 =>
          q_gd (decide ((0 : Int32) = 0) || decide ((0 : Int32) = 1)) <|
          some ((0 : Int32), M_147)
        ) fun e_148 =>
        q_nm e_148 fun M_149 =>
        q_gd (decide ((1 : Int32) = 0) || decide ((1 : Int32) = 1)) <|
        some ((1 : Int32), M_149)
      else
        fX6_aim_b40 h Z M
set_option maxHeartbeats 4000000 in
set_option maxRecDepth 100000 in
theorem bX6_aim_0 {cells slots : Nat} (E : q_E p s m meth c cX6_aim 9 RX6 (some .boolean) "aim" D cA) (hR : 4 ≤ R.frames ∧ 104 ≤ R.locals) (hcc : cells ≤ R.cells ∧ slots ≤ R.slots) (h : Nat) (v1 : Int32) (v2 : Int32) (Z : q_Z) (M : q_C) (H : Heap) (locs : List Loc) (ls : Array Slot) (r : Int32) (M' : q_C) (hf : fX6_aim h v1 v2 Z M = some (r, M')) (hH : q_Hh D cA z0 s Z M H locs) (hl : lv_has ls 9 [(0, .ref h), (1, .int v1), (2, .int v2)])  : W p l e R s m args below meth c H locs cells slots (MQ below (q_Q D cA z0 (some (.int r)) Z M') args s cells slots (fun q => z0 ≤ q)) (F0 m 0 ls []) := by
  have hx := E.1
  have hb := E.2.1
  have hown := E.2.2.2.1
  have hT := E.2.2.2.2.2.2.2.1
  unfold fX6_aim at hf
  refine lv_aload_n hx hb dX6_aim_0 rfl (lv_at hl 0 rfl) ?_
  refine lv_aload_n hx hb dX6_aim_1 rfl (lv_at hl 0 rfl) ?_
  obtain ⟨hk_1, hf⟩ := q_gdE hf
  have hk_1 := q_keq hk_1
  refine q_getI E hH (ci := 6) rfl 4 (by decide) kF_X6_29 (fun _ _ _ => rfl) hk_1 dX6_aim_2 ?_
  obtain ⟨r_2, hw_3, hf⟩ := q_biE hf
  refine q_cV (As := [.int (gI M h 4)]) (rest := []) (st1 := [va_rf r_2]) E hH (tX6_sightOf l D cA z0 h (gI M h 4) Z M r_2 hw_3) mw_X6_sightOf mi_X6_sightOf (ci := 6) rfl ms_X6_sightOf kM_X6_124 hk_1 hcc rfl rfl rfl hl.1 rfl rfl (Nat.le_of_ble_eq_true rfl) ⟨Nat.le_trans (by decide) hR.1, Nat.le_trans (by decide) hR.2⟩ dX6_aim_5 (fun H locs hH => ?_)
  refine q_astore_n (lv' := [(3, va_rf r_2), (0, .ref h), (1, .int v1), (2, .int v2)]) hx hb dX6_aim_8 rfl hl (by decide) rfl (fun ls hl => ?_)
  refine lv_aload_n hx hb dX6_aim_9 rfl (lv_at hl 1 rfl) ?_
  refine lv_aload_n hx hb dX6_aim_10 rfl (lv_at hl 1 rfl) ?_
  refine q_getI E hH (ci := 6) rfl 5 (by decide) kF_X6_32 (fun _ _ _ => rfl) hk_1 dX6_aim_11 ?_
  obtain ⟨r_4, hw_5, hf⟩ := q_biE hf
  refine q_cV (As := [.int (gI M h 5)]) (rest := []) (st1 := [va_rf r_4]) E hH (tX6_sightOf l D cA z0 h (gI M h 5) Z M r_4 hw_5) mw_X6_sightOf mi_X6_sightOf (ci := 6) rfl ms_X6_sightOf kM_X6_124 hk_1 hcc rfl rfl rfl hl.1 rfl rfl (Nat.le_of_ble_eq_true rfl) ⟨Nat.le_trans (by decide) hR.1, Nat.le_trans (by decide) hR.2⟩ dX6_aim_14 (fun H locs hH => ?_)
  refine q_astore (lv' := [(4, va_rf r_4), (3, va_rf r_2), (0, .ref h), (1, .int v1), (2, .int v2)]) hx hb dX6_aim_17 hl (by decide) (by simp [q_rfc] <;> rfl) (fun ls hl => ?_)
  refine q_aload_n hx hb dX6_aim_19 rfl (lv_at hl 1 rfl) ?_
  refine q_ifnull (tgt := 40) hx hb dX6_aim_20 (by decide) hf (fun cc_6 hf => ?_) (fun a_7 cc_6 hf => ?_)
  · subst cc_6
    exact bX6_aim_40 E hR hcc h Z M _ _ _ _ _ hf hH (lv_sub hl [] rfl)
  · subst cc_6
    refine q_aload hx hb dX6_aim_23 (lv_at hl 0 rfl) ?_
    refine q_ifnull (tgt := 40) hx hb dX6_aim_25 (by decide) hf (fun cc_9 hf => ?_) (fun a_10 cc_9 hf => ?_)
    · subst cc_9
      exact bX6_aim_40 E hR hcc h Z M _ _ _ _ _ hf hH (lv_sub hl [] rfl)
    · subst cc_9
      refine lv_aload hx hb dX6_aim_28 (lv_at hl 0 rfl) ?_
      obtain ⟨hk_11, hf⟩ := q_gdE hf
      have hk_11 := q_keq hk_11
      refine q_getIN E hH (ci := 2) rfl 1 (by decide) kF_X6_112 (fun _ _ _ => rfl) hk_11 dX6_aim_30 ?_
      refine lv_aload_n hx hb dX6_aim_33 rfl (lv_at hl 1 rfl) ?_
      obtain ⟨hk_12, hf⟩ := q_gdE hf
      have hk_12 := q_keq hk_12
      refine q_getIN E hH (ci := 2) rfl 1 (by decide) kF_X6_112 (fun _ _ _ => rfl) hk_12 dX6_aim_34 ?_
      refine lv_icmp_gt (tgt := 42) hx hb dX6_aim_37 (by decide) (fun cc_154 => ?_) (fun cc_154 => ?_)
      · replace hf := q_ifT cc_154 hf
        clear cc_154
        refine lv_aload hx hb dX6_aim_42 (lv_at hl 0 rfl) ?_
        refine q_getIN E hH (ci := 2) rfl 1 (by decide) kF_X6_112 (fun _ _ _ => rfl) hk_11 dX6_aim_44 ?_
        refine lv_aload_n hx hb dX6_aim_47 rfl (lv_at hl 1 rfl) ?_
        refine q_getIN E hH (ci := 2) rfl 1 (by decide) kF_X6_112 (fun _ _ _ => rfl) hk_12 dX6_aim_48 ?_
        refine lv_isub hx hb dX6_aim_51 ?_
        refine lv_topi (fun v5_13 hn_14 => ?_)
        replace hf := q_nmE hn_14 hf
        clear hn_14
        refine lv_istore (lv' := [(5, .int v5_13), (4, .ref a_10), (3, .ref a_7), (0, .ref h), (1, .int v1), (2, .int v2)]) hx hb dX6_aim_52 hl (by decide) rfl (fun ls hl => ?_)
        refine lv_aload_n hx hb dX6_aim_54 rfl (lv_at hl 3 rfl) ?_
        refine q_getR E hH (ci := 6) rfl 0 (by decide) kF_X6_12 (fun _ _ _ => rfl) hk_1 dX6_aim_55 ?_
        obtain ⟨a_15, he_16, hf⟩ := q_biE hf
        rw [he_16]
        obtain ⟨hk_17, hf⟩ := q_gdE hf
        have hk_17 := q_keq hk_17
        refine q_getRN E hH (ci := 3) rfl 0 (by decide) kF_X6_90 (fun _ _ _ => rfl) hk_17 dX6_aim_58 ?_
        obtain ⟨a_18, he_19, hf⟩ := q_biE hf
        rw [he_19]
        refine lv_aload hx hb dX6_aim_61 (lv_at hl 1 rfl) ?_
        refine q_getIN E hH (ci := 2) rfl 1 (by decide) kF_X6_112 (fun _ _ _ => rfl) hk_11 dX6_aim_63 ?_
        obtain ⟨hk_20, hf⟩ := q_gdE hf
        have hk_20 := q_keq hk_20
        obtain ⟨r_21, hw_22, hf⟩ := q_biE hf
        refine q_cV (As := [.int (gI M a_10 1)]) (rest := []) (st1 := [.int r_21]) E hH (tX4_xAt l D cA z0 a_18 (gI M a_10 1) Z M r_21 hw_22) mw_X4_xAt mi_X4_xAt (ci := 4) rfl ms_X4_xAt kM_X6_234 hk_20 hcc rfl rfl rfl hl.1 rfl rfl (Nat.le_of_ble_eq_true rfl) ⟨Nat.le_trans (by decide) hR.1, Nat.le_trans (by decide) hR.2⟩ dX6_aim_66 (fun H locs hH => ?_)
        refine lv_aload hx hb dX6_aim_69 (lv_at hl 1 rfl) ?_
        refine lv_aload hx hb dX6_aim_71 (lv_at hl 1 rfl) ?_
        refine q_getIN E hH (ci := 2) rfl 2 (by decide) kF_X6_115 (fun _ _ _ => rfl) hk_11 dX6_aim_73 ?_
        refine lv_aload_n hx hb dX6_aim_76 rfl (lv_at hl 3 rfl) ?_
        refine lv_iload_n hx hb dX6_aim_77 rfl (lv_at hl 5 rfl) ?_
        obtain ⟨r_23, hw_24, hf⟩ := q_biE hf
        refine q_cV (As := [.int v2]) (rest := [.int (gI M a_10 2), .ref a_10, .int r_21]) (st1 := [.int r_23, .int (gI M a_10 2), .ref a_10, .int r_21]) E hH (tX6_gridDistance l D cA z0 h v2 Z M r_23 hw_24) mw_X6_gridDistance mi_X6_gridDistance (ci := 6) rfl ms_X6_gridDistance kM_X6_235 hk_1 hcc rfl rfl rfl hl.1 rfl rfl (Nat.le_of_ble_eq_true rfl) ⟨Nat.le_trans (by decide) hR.1, Nat.le_trans (by decide) hR.2⟩ dX6_aim_78 (fun H locs hH => ?_)
        obtain ⟨r_25, hw_26, hf⟩ := q_biE hf
        refine q_cV (As := [.int (gI M a_10 2), .int r_23]) (rest := [.int r_21]) (st1 := [.int r_25, .int r_21]) E hH (tX2_part l D cA z0 a_10 (gI M a_10 2) r_23 Z M r_25 hw_26) mw_X2_part mi_X2_part (ci := 2) rfl ms_X2_part kM_X6_238 hk_11 hcc rfl rfl rfl hl.1 rfl rfl (Nat.le_of_ble_eq_true rfl) ⟨Nat.le_trans (by decide) hR.1, Nat.le_trans (by decide) hR.2⟩ dX6_aim_81 (fun H locs hH => ?_)
        refine lv_iadd hx hb dX6_aim_84 ?_
        refine lv_topi (fun v6_27 hn_28 => ?_)
        replace hf := q_nmE hn_28 hf
        clear hn_28
        refine lv_istore (lv' := [(6, .int v6_27), (5, .int v5_13), (4, .ref a_10), (3, .ref a_7), (0, .ref h), (1, .int v1), (2, .int v2)]) hx hb dX6_aim_85 hl (by decide) rfl (fun ls hl => ?_)
        refine lv_aload_n hx hb dX6_aim_87 rfl (lv_at hl 4 rfl) ?_
        refine q_getR E hH (ci := 6) rfl 0 (by decide) kF_X6_12 (fun _ _ _ => rfl) hk_1 dX6_aim_88 ?_
        obtain ⟨a_29, he_30, hf⟩ := q_biE hf
        rw [he_30]
        obtain ⟨hk_31, hf⟩ := q_gdE hf
        have hk_31 := q_keq hk_31
        refine q_getRN E hH (ci := 3) rfl 0 (by decide) kF_X6_90 (fun _ _ _ => rfl) hk_31 dX6_aim_91 ?_
        obtain ⟨a_32, he_33, hf⟩ := q_biE hf
        rw [he_33]
        refine lv_aload hx hb dX6_aim_94 (lv_at hl 2 rfl) ?_
        refine q_getIN E hH (ci := 2) rfl 1 (by decide) kF_X6_112 (fun _ _ _ => rfl) hk_11 dX6_aim_96 ?_
        obtain ⟨hk_34, hf⟩ := q_gdE hf
        have hk_34 := q_keq hk_34
        obtain ⟨r_35, hw_36, hf⟩ := q_biE hf
        refine q_cV (As := [.int (gI M a_10 1)]) (rest := []) (st1 := [.int r_35]) E hH (tX4_yAt l D cA z0 a_32 (gI M a_10 1) Z M r_35 hw_36) mw_X4_yAt mi_X4_yAt (ci := 4) rfl ms_X4_yAt kM_X6_241 hk_34 hcc rfl rfl rfl hl.1 rfl rfl (Nat.le_of_ble_eq_true rfl) ⟨Nat.le_trans (by decide) hR.1, Nat.le_trans (by decide) hR.2⟩ dX6_aim_99 (fun H locs hH => ?_)
        refine lv_aload hx hb dX6_aim_102 (lv_at hl 2 rfl) ?_
        refine lv_aload hx hb dX6_aim_104 (lv_at hl 2 rfl) ?_
        refine q_getIN E hH (ci := 2) rfl 3 (by decide) kF_X6_118 (fun _ _ _ => rfl) hk_11 dX6_aim_106 ?_
        refine lv_aload_n hx hb dX6_aim_109 rfl (lv_at hl 4 rfl) ?_
        refine lv_iload_n hx hb dX6_aim_110 rfl (lv_at hl 6 rfl) ?_
        obtain ⟨r_37, hw_38, hf⟩ := q_biE hf
        refine q_cV (As := [.int v2]) (rest := [.int (gI M a_10 3), .ref a_10, .int r_35]) (st1 := [.int r_37, .int (gI M a_10 3), .ref a_10, .int r_35]) E hH (tX6_gridDistance l D cA z0 h v2 Z M r_37 hw_38) mw_X6_gridDistance mi_X6_gridDistance (ci := 6) rfl ms_X6_gridDistance kM_X6_235 hk_1 hcc rfl rfl rfl hl.1 rfl rfl (Nat.le_of_ble_eq_true rfl) ⟨Nat.le_trans (by decide) hR.1, Nat.le_trans (by decide) hR.2⟩ dX6_aim_111 (fun H locs hH => ?_)
        obtain ⟨r_39, hw_40, hf⟩ := q_biE hf
        refine q_cV (As := [.int (gI M a_10 3), .int r_37]) (rest := [.int r_35]) (st1 := [.int r_39, .int r_35]) E hH (tX2_part l D cA z0 a_10 (gI M a_10 3) r_37 Z M r_39 hw_40) mw_X2_part mi_X2_part (ci := 2) rfl ms_X2_part kM_X6_238 hk_11 hcc rfl rfl rfl hl.1 rfl rfl (Nat.le_of_ble_eq_true rfl) ⟨Nat.le_trans (by decide) hR.1, Nat.le_trans (by decide) hR.2⟩ dX6_aim_114 (fun H locs hH => ?_)
        refine lv_iadd hx hb dX6_aim_117 ?_
        refine lv_topi (fun v7_41 hn_42 => ?_)
        replace hf := q_nmE hn_42 hf
        clear hn_42
        refine lv_istore (lv' := [(7, .int v7_41), (6, .int v6_27), (5, .int v5_13), (4, .ref a_10), (3, .ref a_7), (0, .ref h), (1, .int v1), (2, .int v2)]) hx hb dX6_aim_118 hl (by decide) rfl (fun ls hl => ?_)
        refine lv_aload_n hx hb dX6_aim_120 rfl (lv_at hl 5 rfl) ?_
        refine q_getR E hH (ci := 6) rfl 13 (by decide) kF_X6_64 (fun _ _ _ => rfl) hk_1 dX6_aim_121 ?_
        obtain ⟨a_43, he_44, hf⟩ := q_biE hf
        rw [he_44]
        refine lv_iload_n hx hb dX6_aim_124 rfl (lv_at hl 6 rfl) ?_
        obtain ⟨hk_45, hf⟩ := q_gdE hf
        have hk_45 := q_keq hk_45
        refine q_putIN E hH (ci := 5) rfl 0 (by decide) kF_X6_148 rfl (fun _ _ _ => rfl) (x := v1) hk_45 rfl rfl dX6_aim_125 hf (fun M_46 H locs hH hf => ?_)
        refine lv_aload_n hx hb dX6_aim_128 rfl (lv_at hl 5 rfl) ?_
        refine q_getR E hH (ci := 6) rfl 13 (by decide) kF_X6_64 (fun _ _ _ => rfl) hk_1 dX6_aim_129 ?_
        obtain ⟨a_47, he_48, hf⟩ := q_biE hf
        rw [he_48]
        refine lv_iload_n hx hb dX6_aim_132 rfl (lv_at hl 7 rfl) ?_
        obtain ⟨hk_49, hf⟩ := q_gdE hf
        have hk_49 := q_keq hk_49
        refine q_putIN E hH (ci := 5) rfl 1 (by decide) kF_X6_151 rfl (fun _ _ _ => rfl) (x := v2) hk_49 rfl rfl dX6_aim_133 hf (fun M_50 H locs hH hf => ?_)
        refine lv_aload_n hx hb dX6_aim_136 rfl (lv_at hl 5 rfl) ?_
        refine q_getR E hH (ci := 6) rfl 13 (by decide) kF_X6_64 (fun _ _ _ => rfl) hk_1 dX6_aim_137 ?_
        obtain ⟨a_51, he_52, hf⟩ := q_biE hf
        rw [he_52]
        refine lv_aload_n hx hb dX6_aim_140 rfl (lv_at hl 4 rfl) ?_
        refine q_getIN E hH (ci := 2) rfl 1 (by decide) kF_X6_112 (fun _ _ _ => rfl) hk_12 dX6_aim_141 ?_
        obtain ⟨hk_53, hf⟩ := q_gdE hf
        have hk_53 := q_keq hk_53
        refine q_putIN E hH (ci := 5) rfl 6 (by decide) kF_X6_166 rfl (fun _ _ _ => rfl) (x := gI M_50 a_7 1) hk_53 rfl rfl dX6_aim_144 hf (fun M_54 H locs hH hf => ?_)
        refine lv_aload_n hx hb dX6_aim_147 rfl (lv_at hl 5 rfl) ?_
        refine q_getR E hH (ci := 6) rfl 13 (by decide) kF_X6_64 (fun _ _ _ => rfl) hk_1 dX6_aim_148 ?_
        obtain ⟨a_55, he_56, hf⟩ := q_biE hf
        rw [he_56]
        refine lv_aload_n hx hb dX6_aim_151 rfl (lv_at hl 5 rfl) ?_
        refine q_getR E hH (ci := 6) rfl 0 (by decide) kF_X6_12 (fun _ _ _ => rfl) hk_1 dX6_aim_152 ?_
        obtain ⟨a_57, he_58, hf⟩ := q_biE hf
        rw [he_58]
        obtain ⟨hk_59, hf⟩ := q_gdE hf
        have hk_59 := q_keq hk_59
        refine q_getRN E hH (ci := 3) rfl 0 (by decide) kF_X6_90 (fun _ _ _ => rfl) hk_59 dX6_aim_155 ?_
        obtain ⟨a_60, he_61, hf⟩ := q_biE hf
        rw [he_61]
        refine lv_aload_n hx hb dX6_aim_158 rfl (lv_at hl 4 rfl) ?_
        refine q_getIN E hH (ci := 2) rfl 1 (by decide) kF_X6_112 (fun _ _ _ => rfl) hk_12 dX6_aim_159 ?_
        obtain ⟨hk_62, hf⟩ := q_gdE hf
        have hk_62 := q_keq hk_62
        obtain ⟨r_63, hw_64, hf⟩ := q_biE hf
        refine q_cV (As := [.int (gI M_54 a_7 1)]) (rest := [.ref a_55]) (st1 := [.int r_63, .ref a_55]) E hH (tX4_xAt l D cA z0 a_60 (gI M_54 a_7 1) Z M_54 r_63 hw_64) mw_X4_xAt mi_X4_xAt (ci := 4) rfl ms_X4_xAt kM_X6_234 hk_62 hcc rfl rfl rfl hl.1 rfl rfl (Nat.le_of_ble_eq_true rfl) ⟨Nat.le_trans (by decide) hR.1, Nat.le_trans (by decide) hR.2⟩ dX6_aim_162 (fun H locs hH => ?_)
        refine lv_aload_n hx hb dX6_aim_165 rfl (lv_at hl 4 rfl) ?_
        refine lv_aload_n hx hb dX6_aim_166 rfl (lv_at hl 4 rfl) ?_
        refine q_getIN E hH (ci := 2) rfl 2 (by decide) kF_X6_115 (fun _ _ _ => rfl) hk_12 dX6_aim_167 ?_
        refine lv_aload_n hx hb dX6_aim_170 rfl (lv_at hl 5 rfl) ?_
        refine lv_iload_n hx hb dX6_aim_171 rfl (lv_at hl 6 rfl) ?_
        obtain ⟨r_65, hw_66, hf⟩ := q_biE hf
        refine q_cV (As := [.int v1]) (rest := [.int (gI M_54 a_7 2), .ref a_7, .int r_63, .ref a_55]) (st1 := [.int r_65, .int (gI M_54 a_7 2), .ref a_7, .int r_63, .ref a_55]) E hH (tX6_gridDistance l D cA z0 h v1 Z M_54 r_65 hw_66) mw_X6_gridDistance mi_X6_gridDistance (ci := 6) rfl ms_X6_gridDistance kM_X6_235 hk_1 hcc rfl rfl rfl hl.1 rfl rfl (Nat.le_of_ble_eq_true rfl) ⟨Nat.le_trans (by decide) hR.1, Nat.le_trans (by decide) hR.2⟩ dX6_aim_172 (fun H locs hH => ?_)
        obtain ⟨r_67, hw_68, hf⟩ := q_biE hf
        refine q_cV (As := [.int (gI M_54 a_7 2), .int r_65]) (rest := [.int r_63, .ref a_55]) (st1 := [.int r_67, .int r_63, .ref a_55]) E hH (tX2_part l D cA z0 a_7 (gI M_54 a_7 2) r_65 Z M_54 r_67 hw_68) mw_X2_part mi_X2_part (ci := 2) rfl ms_X2_part kM_X6_238 hk_12 hcc rfl rfl rfl hl.1 rfl rfl (Nat.le_of_ble_eq_true rfl) ⟨Nat.le_trans (by decide) hR.1, Nat.le_trans (by decide) hR.2⟩ dX6_aim_175 (fun H locs hH => ?_)
        refine lv_iadd hx hb dX6_aim_178 ?_
        obtain ⟨hk_69, hf⟩ := q_gdE hf
        have hk_69 := q_keq hk_69
        refine q_putIN E hH (ci := 5) rfl 2 (by decide) kF_X6_154 rfl (fun _ _ _ => rfl) (x := r_63 + r_67) hk_69 rfl rfl dX6_aim_179 hf (fun M_70 H locs hH hf => ?_)
        refine lv_aload_n hx hb dX6_aim_182 rfl (lv_at hl 5 rfl) ?_
        refine q_getR E hH (ci := 6) rfl 13 (by decide) kF_X6_64 (fun _ _ _ => rfl) hk_1 dX6_aim_183 ?_
        obtain ⟨a_71, he_72, hf⟩ := q_biE hf
        rw [he_72]
        refine lv_aload_n hx hb dX6_aim_186 rfl (lv_at hl 5 rfl) ?_
        refine q_getR E hH (ci := 6) rfl 0 (by decide) kF_X6_12 (fun _ _ _ => rfl) hk_1 dX6_aim_187 ?_
        obtain ⟨a_73, he_74, hf⟩ := q_biE hf
        rw [he_74]
        obtain ⟨hk_75, hf⟩ := q_gdE hf
        have hk_75 := q_keq hk_75
        refine q_getRN E hH (ci := 3) rfl 0 (by decide) kF_X6_90 (fun _ _ _ => rfl) hk_75 dX6_aim_190 ?_
        obtain ⟨a_76, he_77, hf⟩ := q_biE hf
        rw [he_77]
        refine lv_aload_n hx hb dX6_aim_193 rfl (lv_at hl 4 rfl) ?_
        refine q_getIN E hH (ci := 2) rfl 1 (by decide) kF_X6_112 (fun _ _ _ => rfl) hk_12 dX6_aim_194 ?_
        obtain ⟨hk_78, hf⟩ := q_gdE hf
        have hk_78 := q_keq hk_78
        obtain ⟨r_79, hw_80, hf⟩ := q_biE hf
        refine q_cV (As := [.int (gI M_70 a_7 1)]) (rest := [.ref a_71]) (st1 := [.int r_79, .ref a_71]) E hH (tX4_yAt l D cA z0 a_76 (gI M_70 a_7 1) Z M_70 r_79 hw_80) mw_X4_yAt mi_X4_yAt (ci := 4) rfl ms_X4_yAt kM_X6_241 hk_78 hcc rfl rfl rfl hl.1 rfl rfl (Nat.le_of_ble_eq_true rfl) ⟨Nat.le_trans (by decide) hR.1, Nat.le_trans (by decide) hR.2⟩ dX6_aim_197 (fun H locs hH => ?_)
        refine lv_aload_n hx hb dX6_aim_200 rfl (lv_at hl 4 rfl) ?_
        refine lv_aload_n hx hb dX6_aim_201 rfl (lv_at hl 4 rfl) ?_
        refine q_getIN E hH (ci := 2) rfl 3 (by decide) kF_X6_118 (fun _ _ _ => rfl) hk_12 dX6_aim_202 ?_
        refine lv_aload_n hx hb dX6_aim_205 rfl (lv_at hl 5 rfl) ?_
        refine lv_iload_n hx hb dX6_aim_206 rfl (lv_at hl 6 rfl) ?_
        obtain ⟨r_81, hw_82, hf⟩ := q_biE hf
        refine q_cV (As := [.int v1]) (rest := [.int (gI M_70 a_7 3), .ref a_7, .int r_79, .ref a_71]) (st1 := [.int r_81, .int (gI M_70 a_7 3), .ref a_7, .int r_79, .ref a_71]) E hH (tX6_gridDistance l D cA z0 h v1 Z M_70 r_81 hw_82) mw_X6_gridDistance mi_X6_gridDistance (ci := 6) rfl ms_X6_gridDistance kM_X6_235 hk_1 hcc rfl rfl rfl hl.1 rfl rfl (Nat.le_of_ble_eq_true rfl) ⟨Nat.le_trans (by decide) hR.1, Nat.le_trans (by decide) hR.2⟩ dX6_aim_207 (fun H locs hH => ?_)
        obtain ⟨r_83, hw_84, hf⟩ := q_biE hf
        refine q_cV (As := [.int (gI M_70 a_7 3), .int r_81]) (rest := [.int r_79, .ref a_71]) (st1 := [.int r_83, .int r_79, .ref a_71]) E hH (tX2_part l D cA z0 a_7 (gI M_70 a_7 3) r_81 Z M_70 r_83 hw_84) mw_X2_part mi_X2_part (ci := 2) rfl ms_X2_part kM_X6_238 hk_12 hcc rfl rfl rfl hl.1 rfl rfl (Nat.le_of_ble_eq_true rfl) ⟨Nat.le_trans (by decide) hR.1, Nat.le_trans (by decide) hR.2⟩ dX6_aim_210 (fun H locs hH => ?_)
        refine lv_iadd hx hb dX6_aim_213 ?_
        obtain ⟨hk_85, hf⟩ := q_gdE hf
        have hk_85 := q_keq hk_85
        refine q_putIN E hH (ci := 5) rfl 3 (by decide) kF_X6_157 rfl (fun _ _ _ => rfl) (x := r_79 + r_83) hk_85 rfl rfl dX6_aim_214 hf (fun M_86 H locs hH hf => ?_)
        refine lv_aload_n hx hb dX6_aim_217 rfl (lv_at hl 5 rfl) ?_
        refine q_getR E hH (ci := 6) rfl 13 (by decide) kF_X6_64 (fun _ _ _ => rfl) hk_1 dX6_aim_218 ?_
        obtain ⟨a_87, he_88, hf⟩ := q_biE hf
        rw [he_88]
        refine lv_iload hx hb dX6_aim_221 (lv_at hl 1 rfl) ?_
        refine lv_aload_n hx hb dX6_aim_223 rfl (lv_at hl 5 rfl) ?_
        refine q_getR E hH (ci := 6) rfl 13 (by decide) kF_X6_64 (fun _ _ _ => rfl) hk_1 dX6_aim_224 ?_
        obtain ⟨a_89, he_90, hf⟩ := q_biE hf
        rw [he_90]
        obtain ⟨hk_91, hf⟩ := q_gdE hf
        have hk_91 := q_keq hk_91
        refine q_getIN E hH (ci := 5) rfl 2 (by decide) kF_X6_154 (fun _ _ _ => rfl) hk_91 dX6_aim_227 ?_
        refine lv_isub hx hb dX6_aim_230 ?_
        refine lv_iload hx hb dX6_aim_231 (lv_at hl 2 rfl) ?_
        obtain ⟨hz_92, hf⟩ := q_gdE hf
        refine lv_idiv hx hb dX6_aim_233 (by simpa using hz_92) ?_
        obtain ⟨hk_93, hf⟩ := q_gdE hf
        have hk_93 := q_keq hk_93
        refine q_putIN E hH (ci := 5) rfl 4 (by decide) kF_X6_160 rfl (fun _ _ _ => rfl) (x := (v6_27 - (gI M_86 a_89 2)) / v5_13) hk_93 rfl rfl dX6_aim_234 hf (fun M_94 H locs hH hf => ?_)
        refine lv_aload_n hx hb dX6_aim_237 rfl (lv_at hl 5 rfl) ?_
        refine q_getR E hH (ci := 6) rfl 13 (by decide) kF_X6_64 (fun _ _ _ => rfl) hk_1 dX6_aim_238 ?_
        obtain ⟨a_95, he_96, hf⟩ := q_biE hf
        rw [he_96]
        refine lv_iload hx hb dX6_aim_241 (lv_at hl 0 rfl) ?_
        refine lv_aload_n hx hb dX6_aim_243 rfl (lv_at hl 5 rfl) ?_
        refine q_getR E hH (ci := 6) rfl 13 (by decide) kF_X6_64 (fun _ _ _ => rfl) hk_1 dX6_aim_244 ?_
        obtain ⟨a_97, he_98, hf⟩ := q_biE hf
        rw [he_98]
        obtain ⟨hk_99, hf⟩ := q_gdE hf
        have hk_99 := q_keq hk_99
        refine q_getIN E hH (ci := 5) rfl 3 (by decide) kF_X6_157 (fun _ _ _ => rfl) hk_99 dX6_aim_247 ?_
        refine lv_isub hx hb dX6_aim_250 ?_
        refine lv_iload hx hb dX6_aim_251 (lv_at hl 2 rfl) ?_
        obtain ⟨hz_100, hf⟩ := q_gdE hf
        refine lv_idiv hx hb dX6_aim_253 (by simpa using hz_100) ?_
        obtain ⟨hk_101, hf⟩ := q_gdE hf
        have hk_101 := q_keq hk_101
        refine q_putIN E hH (ci := 5) rfl 5 (by decide) kF_X6_163 rfl (fun _ _ _ => rfl) (x := (v7_41 - (gI M_94 a_97 3)) / v5_13) hk_101 rfl rfl dX6_aim_254 hf (fun M_102 H locs hH hf => ?_)
        refine lv_iconst (v := 0) hx hb dX6_aim_257 (by decide) ?_
        refine lv_istore (lv' := [(8, .int (0 : Int32)), (7, .int v7_41), (6, .int v6_27), (5, .int v5_13), (4, .ref a_10), (3, .ref a_7), (0, .ref h), (1, .int v1), (2, .int v2)]) hx hb dX6_aim_258 hl (by decide) rfl (fun ls hl => ?_)
        obtain ⟨r_144, hr_145, hf⟩ := q_biE hf
        refine lX6_aim_260 E hR hcc h (some a_10) v5_13 v6_27 v7_41 Z q_FU (0 : Int32) M_102 _ _ _ r_144 hr_145 hH (lv_sub hl [6, 4, 3, 2, 1, 0] rfl) (fun M_147 H locs ls he_152 hH hl => ?_) (fun M_149 H locs ls he_153 hH hl => ?_)
        · subst he_152
          replace hf := q_smL hf
          replace hf := q_nmE (x := M_147) rfl hf
          refine lv_iconst (v := 0) hx hb dX6_aim_303 (by decide) ?_
          obtain ⟨hz_150, hf⟩ := q_gdE hf
          cases hf
          exact q_zret E hH hz_150 dX6_aim_304
        · subst he_153
          replace hf := q_smR hf
          replace hf := q_nmE (x := M_149) rfl hf
          refine lv_iconst (v := 1) hx hb dX6_aim_367 (by decide) ?_
          obtain ⟨hz_151, hf⟩ := q_gdE hf
          cases hf
          exact q_zret E hH hz_151 dX6_aim_368
      · replace hf := q_ifF cc_154 hf
        clear cc_154
        exact bX6_aim_40 E hR hcc h Z M _ _ _ _ _ hf hH (lv_sub hl [] rfl)
set_option maxRecDepth 100000 in
theorem tX6_aim (l : Launch) (D : va_G) (cA : Nat → ClassId) (z0 : Nat) (h : Nat) (v1 : Int32) (v2 : Int32) (Z : q_Z) (M : q_C) (r : Int32) (M' : q_C) (hf : fX6_aim h v1 v2 Z M = some (r, M')) : q_Ct l D cA z0 yX6_aim cX6_aim 9 (some .boolean) 4 104 [.ref h, .int v1, .int v2] Z M (some (.int r)) Z M' 0 0 := by
  (refine q_start (plainFor_of_name (by decide)) (Nat.le_of_ble_eq_true rfl) (fun p e s m below meth c H ls E hH hl => ?_); exact bX6_aim_0 E ⟨Nat.le_refl _, Nat.le_refl _⟩ ⟨Nat.le_refl _, Nat.le_refl _⟩ h _ _ Z M H [] ls r M' hf hH hl)
end Q221
