section Q243
variable {p : Program} {l : Launch} {e : Env} {R : Room} {s : State} {m : MethodId} {args : Array Value} {below : List Frame} {meth : Method} {c : Code} {D : va_G} {cA : Nat → ClassId} {z0 : Nat}
def fX6_patch_b13 (h : Nat) (v1 : Int32) (Z : q_Z) (M : q_C) : Option (Int32 × q_Z × q_C) :=
  q_gd (zK Z h == 16) <|
  q_b2 (fX6_widthAt h v1 Z M) fun r_8 M_10 =>
  some (r_8, Z, M_10)
theorem moX6_patch_b13 (h : Nat) (v1 : Int32) (Z : q_Z) (M : q_C) (r : Int32) (Z' : q_Z) (M' : q_C) (hf : fX6_patch_b13 h v1 Z M = some (r, Z', M')) : q_le Z Z' := by
  unfold fX6_patch_b13 at hf
  obtain ⟨-, hf⟩ := q_gdE hf
  obtain ⟨r_8, M_10, hw_9, hf⟩ := q_b2E hf
  cases hf
  exact q_le.rf
set_option maxHeartbeats 4000000 in
set_option maxRecDepth 100000 in
theorem bX6_patch_13 (E : q_E p s m meth c cX6_patch 2 RX6 (some .int) "patch" D cA) (hR : 6 ≤ R.frames ∧ 149 ≤ R.locals) (Zi : q_Z) {Z : q_Z} (hi : q_le Zi Z) {r : Int32} {Z' : q_Z} {M' : q_C} (hbd : zS Z' - zS Zi ≤ R.cells ∧ zC Z' - zC Zi ≤ R.slots)  (h : Nat) (v1 : Int32) (M : q_C) (H : Heap) (locs : List Loc) (ls : Array Slot) (hf : fX6_patch_b13 h v1 Z M = some (r, Z', M')) (hH : q_Hh D cA z0 s Z M H locs) (hl : lv_has ls 2 [(0, .ref h), (1, .int v1)])  : W p l e R s m args below meth c H locs (zS Z - zS Zi) (zC Z - zC Zi) (MQ below (q_Q D cA z0 (some (.int r)) Z' M') args s (zS Z' - zS Zi) (zC Z' - zC Zi) (fun q => z0 ≤ q)) (F0 m 13 ls []) := by
  have hx := E.1
  have hb := E.2.1
  have hown := E.2.2.2.1
  have hT := E.2.2.2.2.2.2.2.1
  have hcc := q_bd hi (moX6_patch_b13 _ _ _ _ _ _ _ hf) hbd
  unfold fX6_patch_b13 at hf
  refine lv_aload_n hx hb dX6_patch_13 rfl (lv_at hl 0 rfl) ?_
  refine lv_iload_n hx hb dX6_patch_14 rfl (lv_at hl 1 rfl) ?_
  obtain ⟨hk_7, hf⟩ := q_gdE hf
  have hk_7 := q_keq hk_7
  obtain ⟨r_8, M_10, hw_9, hf⟩ := q_b2E hf
  refine q_cV (As := [.int v1]) (rest := []) (st1 := [.int r_8]) E hH (tX6_widthAt l D cA z0 h v1 Z M r_8 M_10 hw_9) mw_X6_widthAt mi_X6_widthAt (ci := 6) rfl ms_X6_widthAt kM_X6_187 hk_7 hcc rfl rfl rfl hl.1 rfl rfl (Nat.le_of_ble_eq_true rfl) ⟨Nat.le_trans (by decide) hR.1, Nat.le_trans (by decide) hR.2⟩ dX6_patch_15 (fun H locs hH => ?_)
  cases hf
  exact q_iret E hH dX6_patch_18
def fX6_patch (h : Nat) (v1 : Int32) (Z : q_Z) (M : q_C) : Option (Int32 × q_Z × q_C) :=
  Option.bind (fX6_isStep v1) fun r_1 =>
  if r_1 = 0 then
    some ((-1 : Int32), Z, M)
  else
    q_gd (zK Z h == 16) <|
    q_b2 (fX6_traceAll h Z M) fun Z_6 M_5 =>
    fX6_patch_b13 h v1 Z_6 M_5
theorem moX6_patch (h : Nat) (v1 : Int32) (Z : q_Z) (M : q_C) (r : Int32) (Z' : q_Z) (M' : q_C) (hf : fX6_patch h v1 Z M = some (r, Z', M')) : q_le Z Z' := by
  unfold fX6_patch at hf
  obtain ⟨r_1, hw_2, hf⟩ := q_biE hf
  rcases q_ifC hf with hf | hf
  · cases hf
    exact q_le.rf
  · obtain ⟨-, hf⟩ := q_gdE hf
    obtain ⟨Z_6, M_5, hw_4, hf⟩ := q_b2E hf
    have hq := moX6_traceAll _ _ _ _ _ hw_4
    exact hq.tr (moX6_patch_b13 _ _ _ _ _ _ _ hf)
set_option maxHeartbeats 4000000 in
set_option maxRecDepth 100000 in
theorem bX6_patch_0 (E : q_E p s m meth c cX6_patch 2 RX6 (some .int) "patch" D cA) (hR : 6 ≤ R.frames ∧ 149 ≤ R.locals) (Zi : q_Z) {Z : q_Z} (hi : q_le Zi Z) {r : Int32} {Z' : q_Z} {M' : q_C} (hbd : zS Z' - zS Zi ≤ R.cells ∧ zC Z' - zC Zi ≤ R.slots)  (h : Nat) (v1 : Int32) (M : q_C) (H : Heap) (locs : List Loc) (ls : Array Slot) (hf : fX6_patch h v1 Z M = some (r, Z', M')) (hH : q_Hh D cA z0 s Z M H locs) (hl : lv_has ls 2 [(0, .ref h), (1, .int v1)])  : W p l e R s m args below meth c H locs (zS Z - zS Zi) (zC Z - zC Zi) (MQ below (q_Q D cA z0 (some (.int r)) Z' M') args s (zS Z' - zS Zi) (zC Z' - zC Zi) (fun q => z0 ≤ q)) (F0 m 0 ls []) := by
  have hx := E.1
  have hb := E.2.1
  have hown := E.2.2.2.1
  have hT := E.2.2.2.2.2.2.2.1
  have hcc := q_bd hi (moX6_patch _ _ _ _ _ _ _ hf) hbd
  unfold fX6_patch at hf
  refine lv_iload_n hx hb dX6_patch_0 rfl (lv_at hl 1 rfl) ?_
  obtain ⟨r_1, hw_2, hf⟩ := q_biE hf
  refine q_cS (As := [.int v1]) (rest := []) (st1 := [.int r_1]) E hH (tX6_isStep l D cA z0 Z M v1 r_1 hw_2) mw_X6_isStep mi_X6_isStep kM_X6_101 hcc rfl rfl rfl hl.1 rfl rfl (Nat.le_of_ble_eq_true rfl) ⟨Nat.le_trans (by decide) hR.1, Nat.le_trans (by decide) hR.2⟩ dX6_patch_1 (fun H locs hH => ?_)
  refine lv_if_ne (tgt := 9) hx hb dX6_patch_4 (by decide) (fun cc_11 => ?_) (fun cc_11 => ?_)
  · replace hf := q_ifF cc_11 hf
    clear cc_11
    refine lv_aload_n hx hb dX6_patch_9 rfl (lv_at hl 0 rfl) ?_
    obtain ⟨hk_3, hf⟩ := q_gdE hf
    have hk_3 := q_keq hk_3
    obtain ⟨Z_6, M_5, hw_4, hf⟩ := q_b2E hf
    have hq1 := (moX6_traceAll _ _ _ _ _ hw_4)
    have hq := moX6_patch_b13 _ _ _ _ _ _ _ hf
    refine q_cV (As := []) (rest := []) (st1 := []) E hH (tX6_traceAll l D cA z0 h Z M Z_6 M_5 hw_4) mw_X6_traceAll mi_X6_traceAll (ci := 6) rfl ms_X6_traceAll kM_X6_184 hk_3 (q_bs hi hq1 hq hbd) (q_be1 hi hq1) (q_be2 hi hq1) rfl hl.1 rfl rfl (Nat.le_of_ble_eq_true rfl) ⟨Nat.le_trans (by decide) hR.1, Nat.le_trans (by decide) hR.2⟩ dX6_patch_10 (fun H locs hH => ?_)
    exact bX6_patch_13 E hR Zi (hi.tr hq1) hbd h v1 M_5 _ _ _  hf hH (lv_sub hl [0, 1] rfl)
  · replace hf := q_ifT cc_11 hf
    clear cc_11
    refine lv_iconst (v := -1) hx hb dX6_patch_7 (by decide) ?_
    cases hf
    exact q_iret E hH dX6_patch_8
set_option maxRecDepth 100000 in
theorem tX6_patch (l : Launch) (D : va_G) (cA : Nat → ClassId) (z0 : Nat) (h : Nat) (v1 : Int32) (Z : q_Z) (M : q_C) (r : Int32) (Z' : q_Z) (M' : q_C) (hf : fX6_patch h v1 Z M = some (r, Z', M')) : q_Ct l D cA z0 yX6_patch cX6_patch 2 (some .int) 6 149 [.ref h, .int v1] Z M (some (.int r)) Z' M' (zS Z' - zS Z) (zC Z' - zC Z) := by
  (refine q_start (plainFor_of_name (by decide)) (Nat.le_of_ble_eq_true rfl) (fun p e s m below meth c H ls E hH hl => ?_)
   refine q_wc (c1 := zS Z - zS Z) (s1 := zC Z - zC Z) (Nat.sub_self _).symm (Nat.sub_self _).symm ?_
   exact bX6_patch_0 E ⟨Nat.le_refl _, Nat.le_refl _⟩ Z q_le.rf ⟨Nat.le_refl _, Nat.le_refl _⟩ h _ M H [] ls hf hH hl)
def fX6_side_b13 (h : Nat) (v1 : Int32) (v2 : Int32) (Z : q_Z) (M : q_C) : Option (Int32 × q_Z × q_C) :=
  q_gd (zK Z h == 16) <|
  Option.bind (fX6_look h v1 Z M) fun M_9 =>
  Option.bind (gR M_9 h 14) fun a_10 =>
  Option.bind (gR M_9 h 14) fun a_12 =>
  q_gd (zK Z a_12 == 11) <|
  Option.bind (fX1_edge a_12 v2 Z M_9) fun r_15 =>
  q_gd (zK Z a_10 == 11) <|
  Option.bind (fX1_wayOf a_10 r_15 Z M_9) fun r_18 =>
  some (r_18, Z, M_9)
theorem moX6_side_b13 (h : Nat) (v1 : Int32) (v2 : Int32) (Z : q_Z) (M : q_C) (r : Int32) (Z' : q_Z) (M' : q_C) (hf : fX6_side_b13 h v1 v2 Z M = some (r, Z', M')) : q_le Z Z' := by
  unfold fX6_side_b13 at hf
  obtain ⟨-, hf⟩ := q_gdE hf
  obtain ⟨M_9, hw_8, hf⟩ := q_biE hf
  obtain ⟨a_10, -, hf⟩ := q_biE hf
  obtain ⟨a_12, -, hf⟩ := q_biE hf
  obtain ⟨-, hf⟩ := q_gdE hf
  obtain ⟨r_15, hw_16, hf⟩ := q_biE hf
  obtain ⟨-, hf⟩ := q_gdE hf
  obtain ⟨r_18, hw_19, hf⟩ := q_biE hf
  cases hf
  exact q_le.rf
set_option maxHeartbeats 4000000 in
set_option maxRecDepth 100000 in
theorem bX6_side_13 (E : q_E p s m meth c cX6_side 3 RX6 (some .int) "side" D cA) (hR : 6 ≤ R.frames ∧ 149 ≤ R.locals) (Zi : q_Z) {Z : q_Z} (hi : q_le Zi Z) {r : Int32} {Z' : q_Z} {M' : q_C} (hbd : zS Z' - zS Zi ≤ R.cells ∧ zC Z' - zC Zi ≤ R.slots)  (h : Nat) (v1 : Int32) (v2 : Int32) (M : q_C) (H : Heap) (locs : List Loc) (ls : Array Slot) (hf : fX6_side_b13 h v1 v2 Z M = some (r, Z', M')) (hH : q_Hh D cA z0 s Z M H locs) (hl : lv_has ls 3 [(0, .ref h), (1, .int v1), (2, .int v2)])  : W p l e R s m args below meth c H locs (zS Z - zS Zi) (zC Z - zC Zi) (MQ below (q_Q D cA z0 (some (.int r)) Z' M') args s (zS Z' - zS Zi) (zC Z' - zC Zi) (fun q => z0 ≤ q)) (F0 m 13 ls []) := by
  have hx := E.1
  have hb := E.2.1
  have hown := E.2.2.2.1
  have hT := E.2.2.2.2.2.2.2.1
  have hcc := q_bd hi (moX6_side_b13 _ _ _ _ _ _ _ _ hf) hbd
  unfold fX6_side_b13 at hf
  refine lv_aload_n hx hb dX6_side_13 rfl (lv_at hl 0 rfl) ?_
  refine lv_iload_n hx hb dX6_side_14 rfl (lv_at hl 1 rfl) ?_
  obtain ⟨hk_7, hf⟩ := q_gdE hf
  have hk_7 := q_keq hk_7
  obtain ⟨M_9, hw_8, hf⟩ := q_biE hf
  refine q_cV (As := [.int v1]) (rest := []) (st1 := []) E hH (tX6_look l D cA z0 h v1 Z M M_9 hw_8) mw_X6_look mi_X6_look (ci := 6) rfl ms_X6_look kM_X6_190 hk_7 hcc rfl rfl rfl hl.1 rfl rfl (Nat.le_of_ble_eq_true rfl) ⟨Nat.le_trans (by decide) hR.1, Nat.le_trans (by decide) hR.2⟩ dX6_side_15 (fun H locs hH => ?_)
  refine lv_aload_n hx hb dX6_side_18 rfl (lv_at hl 0 rfl) ?_
  refine q_getR E hH (ci := 6) rfl 14 (by decide) kF_X6_71 (fun _ _ _ => rfl) hk_7 dX6_side_19 ?_
  obtain ⟨a_10, he_11, hf⟩ := q_biE hf
  rw [he_11]
  refine lv_aload_n hx hb dX6_side_22 rfl (lv_at hl 0 rfl) ?_
  refine q_getR E hH (ci := 6) rfl 14 (by decide) kF_X6_71 (fun _ _ _ => rfl) hk_7 dX6_side_23 ?_
  obtain ⟨a_12, he_13, hf⟩ := q_biE hf
  rw [he_13]
  refine lv_iload_n hx hb dX6_side_26 rfl (lv_at hl 2 rfl) ?_
  obtain ⟨hk_14, hf⟩ := q_gdE hf
  have hk_14 := q_keq hk_14
  obtain ⟨r_15, hw_16, hf⟩ := q_biE hf
  refine q_cV (As := [.int v2]) (rest := [.ref a_10]) (st1 := [.int r_15, .ref a_10]) E hH (tX1_edge l D cA z0 a_12 v2 Z M_9 r_15 hw_16) mw_X1_edge mi_X1_edge (ci := 1) rfl ms_X1_edge kM_X6_194 hk_14 hcc rfl rfl rfl hl.1 rfl rfl (Nat.le_of_ble_eq_true rfl) ⟨Nat.le_trans (by decide) hR.1, Nat.le_trans (by decide) hR.2⟩ dX6_side_27 (fun H locs hH => ?_)
  obtain ⟨hk_17, hf⟩ := q_gdE hf
  have hk_17 := q_keq hk_17
  obtain ⟨r_18, hw_19, hf⟩ := q_biE hf
  refine q_cV (As := [.int r_15]) (rest := []) (st1 := [.int r_18]) E hH (tX1_wayOf l D cA z0 a_10 r_15 Z M_9 r_18 hw_19) mw_X1_wayOf mi_X1_wayOf (ci := 1) rfl ms_X1_wayOf kM_X6_198 hk_17 hcc rfl rfl rfl hl.1 rfl rfl (Nat.le_of_ble_eq_true rfl) ⟨Nat.le_trans (by decide) hR.1, Nat.le_trans (by decide) hR.2⟩ dX6_side_30 (fun H locs hH => ?_)
  cases hf
  exact q_iret E hH dX6_side_33
def fX6_side (h : Nat) (v1 : Int32) (v2 : Int32) (Z : q_Z) (M : q_C) : Option (Int32 × q_Z × q_C) :=
  Option.bind (fX6_isStep v1) fun r_1 =>
  if r_1 = 0 then
    some ((-1 : Int32), Z, M)
  else
    q_gd (zK Z h == 16) <|
    q_b2 (fX6_traceAll h Z M) fun Z_6 M_5 =>
    fX6_side_b13 h v1 v2 Z_6 M_5
theorem moX6_side (h : Nat) (v1 : Int32) (v2 : Int32) (Z : q_Z) (M : q_C) (r : Int32) (Z' : q_Z) (M' : q_C) (hf : fX6_side h v1 v2 Z M = some (r, Z', M')) : q_le Z Z' := by
  unfold fX6_side at hf
  obtain ⟨r_1, hw_2, hf⟩ := q_biE hf
  rcases q_ifC hf with hf | hf
  · cases hf
    exact q_le.rf
  · obtain ⟨-, hf⟩ := q_gdE hf
    obtain ⟨Z_6, M_5, hw_4, hf⟩ := q_b2E hf
    have hq := moX6_traceAll _ _ _ _ _ hw_4
    exact hq.tr (moX6_side_b13 _ _ _ _ _ _ _ _ hf)
set_option maxHeartbeats 4000000 in
set_option maxRecDepth 100000 in
theorem bX6_side_0 (E : q_E p s m meth c cX6_side 3 RX6 (some .int) "side" D cA) (hR : 6 ≤ R.frames ∧ 149 ≤ R.locals) (Zi : q_Z) {Z : q_Z} (hi : q_le Zi Z) {r : Int32} {Z' : q_Z} {M' : q_C} (hbd : zS Z' - zS Zi ≤ R.cells ∧ zC Z' - zC Zi ≤ R.slots)  (h : Nat) (v1 : Int32) (v2 : Int32) (M : q_C) (H : Heap) (locs : List Loc) (ls : Array Slot) (hf : fX6_side h v1 v2 Z M = some (r, Z', M')) (hH : q_Hh D cA z0 s Z M H locs) (hl : lv_has ls 3 [(0, .ref h), (1, .int v1), (2, .int v2)])  : W p l e R s m args below meth c H locs (zS Z - zS Zi) (zC Z - zC Zi) (MQ below (q_Q D cA z0 (some (.int r)) Z' M') args s (zS Z' - zS Zi) (zC Z' - zC Zi) (fun q => z0 ≤ q)) (F0 m 0 ls []) := by
  have hx := E.1
  have hb := E.2.1
  have hown := E.2.2.2.1
  have hT := E.2.2.2.2.2.2.2.1
  have hcc := q_bd hi (moX6_side _ _ _ _ _ _ _ _ hf) hbd
  unfold fX6_side at hf
  refine lv_iload_n hx hb dX6_side_0 rfl (lv_at hl 1 rfl) ?_
  obtain ⟨r_1, hw_2, hf⟩ := q_biE hf
  refine q_cS (As := [.int v1]) (rest := []) (st1 := [.int r_1]) E hH (tX6_isStep l D cA z0 Z M v1 r_1 hw_2) mw_X6_isStep mi_X6_isStep kM_X6_101 hcc rfl rfl rfl hl.1 rfl rfl (Nat.le_of_ble_eq_true rfl) ⟨Nat.le_trans (by decide) hR.1, Nat.le_trans (by decide) hR.2⟩ dX6_side_1 (fun H locs hH => ?_)
  refine lv_if_ne (tgt := 9) hx hb dX6_side_4 (by decide) (fun cc_20 => ?_) (fun cc_20 => ?_)
  · replace hf := q_ifF cc_20 hf
    clear cc_20
    refine lv_aload_n hx hb dX6_side_9 rfl (lv_at hl 0 rfl) ?_
    obtain ⟨hk_3, hf⟩ := q_gdE hf
    have hk_3 := q_keq hk_3
    obtain ⟨Z_6, M_5, hw_4, hf⟩ := q_b2E hf
    have hq1 := (moX6_traceAll _ _ _ _ _ hw_4)
    have hq := moX6_side_b13 _ _ _ _ _ _ _ _ hf
    refine q_cV (As := []) (rest := []) (st1 := []) E hH (tX6_traceAll l D cA z0 h Z M Z_6 M_5 hw_4) mw_X6_traceAll mi_X6_traceAll (ci := 6) rfl ms_X6_traceAll kM_X6_184 hk_3 (q_bs hi hq1 hq hbd) (q_be1 hi hq1) (q_be2 hi hq1) rfl hl.1 rfl rfl (Nat.le_of_ble_eq_true rfl) ⟨Nat.le_trans (by decide) hR.1, Nat.le_trans (by decide) hR.2⟩ dX6_side_10 (fun H locs hH => ?_)
    exact bX6_side_13 E hR Zi (hi.tr hq1) hbd h v1 v2 M_5 _ _ _  hf hH (lv_sub hl [0, 1, 2] rfl)
  · replace hf := q_ifT cc_20 hf
    clear cc_20
    refine lv_iconst (v := -1) hx hb dX6_side_7 (by decide) ?_
    cases hf
    exact q_iret E hH dX6_side_8
set_option maxRecDepth 100000 in
theorem tX6_side (l : Launch) (D : va_G) (cA : Nat → ClassId) (z0 : Nat) (h : Nat) (v1 : Int32) (v2 : Int32) (Z : q_Z) (M : q_C) (r : Int32) (Z' : q_Z) (M' : q_C) (hf : fX6_side h v1 v2 Z M = some (r, Z', M')) : q_Ct l D cA z0 yX6_side cX6_side 3 (some .int) 6 149 [.ref h, .int v1, .int v2] Z M (some (.int r)) Z' M' (zS Z' - zS Z) (zC Z' - zC Z) := by
  (refine q_start (plainFor_of_name (by decide)) (Nat.le_of_ble_eq_true rfl) (fun p e s m below meth c H ls E hH hl => ?_)
   refine q_wc (c1 := zS Z - zS Z) (s1 := zC Z - zC Z) (Nat.sub_self _).symm (Nat.sub_self _).symm ?_
   exact bX6_side_0 E ⟨Nat.le_refl _, Nat.le_refl _⟩ Z q_le.rf ⟨Nat.le_refl _, Nat.le_refl _⟩ h _ _ M H [] ls hf hH hl)
def fX6_tells_b14 (h : Nat) (Z : q_Z) (M : q_C) : Option (Int32 × q_Z × q_C) :=
  some ((-1000 : Int32), Z, M)
theorem moX6_tells_b14 (h : Nat) (Z : q_Z) (M : q_C) (r : Int32) (Z' : q_Z) (M' : q_C) (hf : fX6_tells_b14 h Z M = some (r, Z', M')) : q_le Z Z' := by
  unfold fX6_tells_b14 at hf
  cases hf
  exact q_le.rf
set_option maxHeartbeats 4000000 in
set_option maxRecDepth 100000 in
theorem bX6_tells_14 (E : q_E p s m meth c cX6_tells 9 RX6 (some .int) "tells" D cA) (hR : 6 ≤ R.frames ∧ 149 ≤ R.locals) (Zi : q_Z) {Z : q_Z} (hi : q_le Zi Z) {r : Int32} {Z' : q_Z} {M' : q_C} (hbd : zS Z' - zS Zi ≤ R.cells ∧ zC Z' - zC Zi ≤ R.slots)  (h : Nat) (M : q_C) (H : Heap) (locs : List Loc) (ls : Array Slot) (hf : fX6_tells_b14 h Z M = some (r, Z', M')) (hH : q_Hh D cA z0 s Z M H locs) (hl : lv_has ls 9 [])  : W p l e R s m args below meth c H locs (zS Z - zS Zi) (zC Z - zC Zi) (MQ below (q_Q D cA z0 (some (.int r)) Z' M') args s (zS Z' - zS Zi) (zC Z' - zC Zi) (fun q => z0 ≤ q)) (F0 m 14 ls []) := by
  have hx := E.1
  have hb := E.2.1
  have hown := E.2.2.2.1
  have hT := E.2.2.2.2.2.2.2.1
  have hcc := q_bd hi (moX6_tells_b14 _ _ _ _ _ _ hf) hbd
  unfold fX6_tells_b14 at hf
  refine lv_sipush (v := -1000) hx hb dX6_tells_14 (by decide) ?_
  cases hf
  exact q_iret E hH dX6_tells_17
def fX6_tells_b78 (h : Nat) (v2 : Int32) (v3 : Int32) (v4 : Int64) (v6 : Int32) (Z : q_Z) (M : q_C) : Option ((Int32 × Int64 × Int32 × q_C) ⊕ (Int32 × q_C)) :=
  q_nm (v6 + (1 : Int32)) fun v6_15 =>
  some (Sum.inl (v3, v4, v6_15, M))
set_option maxHeartbeats 4000000 in
set_option maxRecDepth 100000 in
theorem bX6_tells_78 {cells slots : Nat} {Q : State → Prop} (E : q_E p s m meth c cX6_tells 9 RX6 (some .int) "tells" D cA) (hR : 6 ≤ R.frames ∧ 149 ≤ R.locals) (hcc : cells ≤ R.cells ∧ slots ≤ R.slots) (h : Nat) (v2 : Int32) (v3 : Int32) (v4 : Int64) (v6 : Int32) (Z : q_Z) (M : q_C) (H : Heap) (locs : List Loc) (ls : Array Slot) (o : (Int32 × Int64 × Int32 × q_C) ⊕ (Int32 × q_C)) (hf : fX6_tells_b78 h v2 v3 v4 v6 Z M = some o) (hH : q_Hh D cA z0 s Z M H locs) (hl : lv_has ls 9 [(0, .ref h), (2, .int v2), (3, .int v3), (4, .long v4), (6, .int v6)]) (kb : ∀ (w3 : Int32) (w4 : Int64) (w6 : Int32) (M1 : q_C) (H : Heap) (locs : List Loc) (ls : Array Slot), Sum.inl (w3, w4, w6, M1) = o → q_Hh D cA z0 s Z M1 H locs → lv_has ls 9 [(0, .ref h), (2, .int v2), (3, .int w3), (4, .long w4), (6, .int w6)] → W p l e R s m args below meth c H locs cells slots Q (F0 m 34 ls [])) (kx0 : ∀ (w3 : Int32) (M1 : q_C) (H : Heap) (locs : List Loc) (ls : Array Slot), Sum.inr (w3, M1) = o → q_Hh D cA z0 s Z M1 H locs → lv_has ls 9 [(3, .int w3)] → W p l e R s m args below meth c H locs cells slots Q (F0 m 84 ls [])) : W p l e R s m args below meth c H locs cells slots Q (F0 m 78 ls []) := by
  have hx := E.1
  have hb := E.2.1
  have hown := E.2.2.2.1
  have hT := E.2.2.2.2.2.2.2.1
  unfold fX6_tells_b78 at hf
  obtain ⟨v6_15, hn_16⟩ : ∃ y : Int32, y = v6 + (1 : Int32) := ⟨_, rfl⟩
  replace hf := q_nmE hn_16 hf
  refine lv_iinc (v := v6_15) (lv' := [(6, .int v6_15), (0, .ref h), (2, .int v2), (3, .int v3), (4, .long v4)]) hx hb dX6_tells_78 hl (k := 4) rfl (by rw [hn_16]; rfl) (by decide) rfl (fun ls hl => ?_)
  clear hn_16
  refine lv_goto (tgt := 34) hx hb dX6_tells_81 (by decide) ?_
  cases hf
  exact kb v3 v4 v6_15 M _ _ _ rfl hH (lv_sub hl [1, 2, 3, 4, 0] rfl)
def fX6_tells_b63 (h : Nat) (v2 : Int32) (v3 : Int32) (v4 : Int64) (v6 : Int32) (v7 : Int64) (Z : q_Z) (M : q_C) : Option ((Int32 × Int64 × Int32 × q_C) ⊕ (Int32 × q_C)) :=
  if v7 ≤ v4 then
    fX6_tells_b78 h v2 v3 v4 v6 Z M
  else
    fX6_tells_b78 h v2 v6 v7 v6 Z M
set_option maxHeartbeats 4000000 in
set_option maxRecDepth 100000 in
theorem bX6_tells_63 {cells slots : Nat} {Q : State → Prop} (E : q_E p s m meth c cX6_tells 9 RX6 (some .int) "tells" D cA) (hR : 6 ≤ R.frames ∧ 149 ≤ R.locals) (hcc : cells ≤ R.cells ∧ slots ≤ R.slots) (h : Nat) (v2 : Int32) (v3 : Int32) (v4 : Int64) (v6 : Int32) (v7 : Int64) (Z : q_Z) (M : q_C) (H : Heap) (locs : List Loc) (ls : Array Slot) (o : (Int32 × Int64 × Int32 × q_C) ⊕ (Int32 × q_C)) (hf : fX6_tells_b63 h v2 v3 v4 v6 v7 Z M = some o) (hH : q_Hh D cA z0 s Z M H locs) (hl : lv_has ls 9 [(0, .ref h), (2, .int v2), (3, .int v3), (4, .long v4), (6, .int v6), (7, .long v7)]) (kb : ∀ (w3 : Int32) (w4 : Int64) (w6 : Int32) (M1 : q_C) (H : Heap) (locs : List Loc) (ls : Array Slot), Sum.inl (w3, w4, w6, M1) = o → q_Hh D cA z0 s Z M1 H locs → lv_has ls 9 [(0, .ref h), (2, .int v2), (3, .int w3), (4, .long w4), (6, .int w6)] → W p l e R s m args below meth c H locs cells slots Q (F0 m 34 ls [])) (kx0 : ∀ (w3 : Int32) (M1 : q_C) (H : Heap) (locs : List Loc) (ls : Array Slot), Sum.inr (w3, M1) = o → q_Hh D cA z0 s Z M1 H locs → lv_has ls 9 [(3, .int w3)] → W p l e R s m args below meth c H locs cells slots Q (F0 m 84 ls [])) : W p l e R s m args below meth c H locs cells slots Q (F0 m 63 ls []) := by
  have hx := E.1
  have hb := E.2.1
  have hown := E.2.2.2.1
  have hT := E.2.2.2.2.2.2.2.1
  unfold fX6_tells_b63 at hf
  refine lv_lload hx hb dX6_tells_63 (lv_at hl 5 rfl) ?_
  refine lv_lload hx hb dX6_tells_65 (lv_at hl 3 rfl) ?_
  refine q_lcmp_le (pc1 := 68) (tgt := 78) hx hb dX6_tells_67 rfl dX6_tells_68 (by decide) (fun cc_17 => ?_) (fun cc_17 => ?_)
  · replace hf := q_ifT cc_17 hf
    clear cc_17
    exact bX6_tells_78 E hR hcc h v2 v3 v4 v6 Z M _ _ _ _ hf hH (lv_sub hl [0, 1, 2, 3, 4] rfl) kb kx0
  · replace hf := q_ifF cc_17 hf
    clear cc_17
    refine lv_lload hx hb dX6_tells_71 (lv_at hl 5 rfl) ?_
    refine lv_lstore (lv' := [(4, .long v7), (0, .ref h), (2, .int v2), (3, .int v3), (6, .int v6), (7, .long v7)]) hx hb dX6_tells_73 hl (by decide) rfl (fun ls hl => ?_)
    refine lv_iload hx hb dX6_tells_75 (lv_at hl 4 rfl) ?_
    refine lv_istore_n (lv' := [(3, .int v6), (4, .long v7), (0, .ref h), (2, .int v2), (6, .int v6), (7, .long v7)]) hx hb dX6_tells_77 rfl hl (by decide) rfl (fun ls hl => ?_)
    exact bX6_tells_78 E hR hcc h v2 v6 v7 v6 Z M _ _ _ _ hf hH (lv_sub hl [2, 3, 0, 1, 4] rfl) kb kx0
def fX6_tells_L34 (h : Nat) (v2 : Int32) (v3 : Int32) (v4 : Int64) (v6 : Int32) (Z : q_Z) (M : q_C) : Option ((Int32 × Int64 × Int32 × q_C) ⊕ (Int32 × q_C)) :=
  if v2 < v6 then
    some (Sum.inr (v3, M))
  else
    q_gd (zK Z h == 16) <|
    q_b2 (fX6_widthAt h v6 Z M) fun r_10 M_12 =>
    q_nm r_10.toInt64 fun v7_13 =>
    if v7_13 = (-2 : Int64) then
      fX6_tells_b63 h v2 v3 v4 v6 (2147483648 : Int64) Z M_12
    else
      fX6_tells_b63 h v2 v3 v4 v6 v7_13 Z M_12
set_option maxHeartbeats 4000000 in
set_option maxRecDepth 100000 in
theorem lX6_tells_34 {cells slots : Nat} {Q : State → Prop} (E : q_E p s m meth c cX6_tells 9 RX6 (some .int) "tells" D cA) (hR : 6 ≤ R.frames ∧ 149 ≤ R.locals) (hcc : cells ≤ R.cells ∧ slots ≤ R.slots)  (h : Nat) (v2 : Int32) (Z : q_Z) : ∀ (n : Nat) (v3 : Int32) (v4 : Int64) (v6 : Int32) (M : q_C) (H : Heap) (locs : List Loc) (ls : Array Slot) (r : (Int32 × q_C)), q_it (fun x => fX6_tells_L34 h v2 x.1 x.2.1 x.2.2.1 Z x.2.2.2) n (v3, v4, v6, M) = some r → q_Hh D cA z0 s Z M H locs → lv_has ls 9 [(0, .ref h), (2, .int v2), (3, .int v3), (4, .long v4), (6, .int v6)] → (kx0 : ∀ (w3 : Int32) (M1 : q_C) (H : Heap) (locs : List Loc) (ls : Array Slot), (w3, M1) = r → q_Hh D cA z0 s Z M1 H locs → lv_has ls 9 [(3, .int w3)] → W p l e R s m args below meth c H locs cells slots Q (F0 m 84 ls [])) → W p l e R s m args below meth c H locs cells slots Q (F0 m 34 ls []) := by
  have hx := E.1
  have hb := E.2.1
  have hown := E.2.2.2.1
  have hT := E.2.2.2.2.2.2.2.1
  intro n
  induction n with
  | zero =>
    intro v3 v4 v6 M H locs ls r hf
    cases hf
  | succ n ih =>
    intro v3 v4 v6 M H locs ls r hf hH hl ky0
    obtain ⟨n1, o, hn, hf, ho⟩ := q_itE hf
    cases hn
    have hf : fX6_tells_L34 h v2 v3 v4 v6 Z M = some o := hf
    have kb : ∀ (w3 : Int32) (w4 : Int64) (w6 : Int32) (M1 : q_C) (H : Heap) (locs : List Loc) (ls : Array Slot), Sum.inl (w3, w4, w6, M1) = o → q_Hh D cA z0 s Z M1 H locs → lv_has ls 9 [(0, .ref h), (2, .int v2), (3, .int w3), (4, .long w4), (6, .int w6)] → W p l e R s m args below meth c H locs cells slots Q (F0 m 34 ls []) := by
      intro w3 w4 w6 M1 H locs ls e hH hl
      subst e
      exact ih w3 w4 w6 M1 H locs ls r ho hH hl ky0
    have kx0 : ∀ (w3 : Int32) (M1 : q_C) (H : Heap) (locs : List Loc) (ls : Array Slot), Sum.inr (w3, M1) = o → q_Hh D cA z0 s Z M1 H locs → lv_has ls 9 [(3, .int w3)] → W p l e R s m args below meth c H locs cells slots Q (F0 m 84 ls []) := by
      intro w3 M1 H locs ls e hH hl
      subst e
      exact ky0 w3 M1 H locs ls ho hH hl
    unfold fX6_tells_L34 at hf
    refine lv_iload hx hb dX6_tells_34 (lv_at hl 4 rfl) ?_
    refine lv_iload_n hx hb dX6_tells_36 rfl (lv_at hl 1 rfl) ?_
    refine lv_icmp_gt (tgt := 84) hx hb dX6_tells_37 (by decide) (fun cc_19 => ?_) (fun cc_19 => ?_)
    · replace hf := q_ifT cc_19 hf
      clear cc_19
      cases hf
      exact kx0 v3 M _ _ _ rfl hH (lv_sub hl [2] rfl)
    · replace hf := q_ifF cc_19 hf
      clear cc_19
      refine lv_aload_n hx hb dX6_tells_40 rfl (lv_at hl 0 rfl) ?_
      refine lv_iload hx hb dX6_tells_41 (lv_at hl 4 rfl) ?_
      obtain ⟨hk_9, hf⟩ := q_gdE hf
      have hk_9 := q_keq hk_9
      obtain ⟨r_10, M_12, hw_11, hf⟩ := q_b2E hf
      refine q_cV (As := [.int v6]) (rest := []) (st1 := [.int r_10]) E hH (tX6_widthAt l D cA z0 h v6 Z M r_10 M_12 hw_11) mw_X6_widthAt mi_X6_widthAt (ci := 6) rfl ms_X6_widthAt kM_X6_187 hk_9 hcc rfl rfl rfl hl.1 rfl rfl (Nat.le_of_ble_eq_true rfl) ⟨Nat.le_trans (by decide) hR.1, Nat.le_trans (by decide) hR.2⟩ dX6_tells_43 (fun H locs hH => ?_)
      refine lv_i2l hx hb dX6_tells_46 rfl ?_
      refine lv_topl (fun v7_13 hn_14 => ?_)
      replace hf := q_nmE hn_14 hf
      clear hn_14
      refine lv_lstore (lv' := [(7, .long v7_13), (0, .ref h), (2, .int v2), (3, .int v3), (4, .long v4), (6, .int v6)]) hx hb dX6_tells_47 hl (by decide) rfl (fun ls hl => ?_)
      refine lv_lload hx hb dX6_tells_49 (lv_at hl 0 rfl) ?_
      refine lv_ldc2 hx hb hown (hT.1 _ _ kK_X6_203) dX6_tells_51 ?_
      refine q_lcmp_ne (pc1 := 55) (tgt := 63) hx hb dX6_tells_54 rfl dX6_tells_55 (by decide) (fun cc_18 => ?_) (fun cc_18 => ?_)
      · replace hf := q_ifF cc_18 hf
        clear cc_18
        exact bX6_tells_63 E hR hcc h v2 v3 v4 v6 v7_13 Z M_12 _ _ _ _ hf hH (lv_sub hl [1, 2, 3, 4, 5, 0] rfl) kb kx0
      · replace hf := q_ifT cc_18 hf
        clear cc_18
        refine lv_ldc2 hx hb hown (hT.1 _ _ kK_X6_205) dX6_tells_58 ?_
        refine lv_lstore (lv' := [(7, .long (2147483648 : Int64)), (0, .ref h), (2, .int v2), (3, .int v3), (4, .long v4), (6, .int v6)]) hx hb dX6_tells_61 hl (by decide) rfl (fun ls hl => ?_)
        exact bX6_tells_63 E hR hcc h v2 v3 v4 v6 (2147483648 : Int64) Z M_12 _ _ _ _ hf hH (lv_sub hl [1, 2, 3, 4, 5, 0] rfl) kb kx0
def fX6_tells_b22 (h : Nat) (v1 : Int32) (v2 : Int32) (Z : q_Z) (M : q_C) : Option (Int32 × q_Z × q_C) :=
  Option.bind (q_it (fun x => fX6_tells_L34 h v2 x.1 x.2.1 x.2.2.1 Z x.2.2.2) q_FU ((-1000 : Int32), (-1 : Int64), v1, M)) fun r_20 =>
  q_nm r_20.1 fun v3_22 =>
  q_nm r_20.2 fun M_23 =>
  some (v3_22, Z, M_23)
theorem moX6_tells_b22 (h : Nat) (v1 : Int32) (v2 : Int32) (Z : q_Z) (M : q_C) (r : Int32) (Z' : q_Z) (M' : q_C) (hf : fX6_tells_b22 h v1 v2 Z M = some (r, Z', M')) : q_le Z Z' := by
  unfold fX6_tells_b22 at hf
  obtain ⟨r_20, hr_21, hf⟩ := q_biE hf
  replace hf := q_nmE (x := _) rfl hf
  replace hf := q_nmE (x := _) rfl hf
  cases hf
  exact q_le.rf
set_option maxHeartbeats 4000000 in
set_option maxRecDepth 100000 in
theorem bX6_tells_22 (E : q_E p s m meth c cX6_tells 9 RX6 (some .int) "tells" D cA) (hR : 6 ≤ R.frames ∧ 149 ≤ R.locals) (Zi : q_Z) {Z : q_Z} (hi : q_le Zi Z) {r : Int32} {Z' : q_Z} {M' : q_C} (hbd : zS Z' - zS Zi ≤ R.cells ∧ zC Z' - zC Zi ≤ R.slots)  (h : Nat) (v1 : Int32) (v2 : Int32) (M : q_C) (H : Heap) (locs : List Loc) (ls : Array Slot) (hf : fX6_tells_b22 h v1 v2 Z M = some (r, Z', M')) (hH : q_Hh D cA z0 s Z M H locs) (hl : lv_has ls 9 [(0, .ref h), (1, .int v1), (2, .int v2)])  : W p l e R s m args below meth c H locs (zS Z - zS Zi) (zC Z - zC Zi) (MQ below (q_Q D cA z0 (some (.int r)) Z' M') args s (zS Z' - zS Zi) (zC Z' - zC Zi) (fun q => z0 ≤ q)) (F0 m 22 ls []) := by
  have hx := E.1
  have hb := E.2.1
  have hown := E.2.2.2.1
  have hT := E.2.2.2.2.2.2.2.1
  have hcc := q_bd hi (moX6_tells_b22 _ _ _ _ _ _ _ _ hf) hbd
  unfold fX6_tells_b22 at hf
  refine lv_sipush (v := -1000) hx hb dX6_tells_22 (by decide) ?_
  refine lv_istore_n (lv' := [(3, .int (-1000 : Int32)), (0, .ref h), (1, .int v1), (2, .int v2)]) hx hb dX6_tells_25 rfl hl (by decide) rfl (fun ls hl => ?_)
  refine lv_ldc2 hx hb hown (hT.1 _ _ kK_X6_201) dX6_tells_26 ?_
  refine lv_lstore (lv' := [(4, .long (-1 : Int64)), (3, .int (-1000 : Int32)), (0, .ref h), (1, .int v1), (2, .int v2)]) hx hb dX6_tells_29 hl (by decide) rfl (fun ls hl => ?_)
  refine lv_iload_n hx hb dX6_tells_31 rfl (lv_at hl 3 rfl) ?_
  refine lv_istore (lv' := [(6, .int v1), (4, .long (-1 : Int64)), (3, .int (-1000 : Int32)), (0, .ref h), (1, .int v1), (2, .int v2)]) hx hb dX6_tells_32 hl (by decide) rfl (fun ls hl => ?_)
  obtain ⟨r_20, hr_21, hf⟩ := q_biE hf
  refine lX6_tells_34 E hR hcc h v2 Z q_FU (-1000 : Int32) (-1 : Int64) v1 M _ _ _ r_20 hr_21 hH (lv_sub hl [3, 5, 2, 1, 0] rfl) (fun v3_22 M_23 H locs ls he_24 hH hl => ?_)
  · subst he_24
    replace hf := q_nmE (x := v3_22) rfl hf
    replace hf := q_nmE (x := M_23) rfl hf
    refine lv_iload_n hx hb dX6_tells_84 rfl (lv_at hl 0 rfl) ?_
    cases hf
    exact q_iret E hH dX6_tells_85
def fX6_tells (h : Nat) (v1 : Int32) (v2 : Int32) (Z : q_Z) (M : q_C) : Option (Int32 × q_Z × q_C) :=
  Option.bind (fX6_isStep v1) fun r_1 =>
  if r_1 = 0 then
    fX6_tells_b14 h Z M
  else
    Option.bind (fX6_isStep v2) fun r_3 =>
    if r_3 = 0 then
      fX6_tells_b14 h Z M
    else
      q_gd (zK Z h == 16) <|
      q_b2 (fX6_traceAll h Z M) fun Z_8 M_7 =>
      fX6_tells_b22 h v1 v2 Z_8 M_7
theorem moX6_tells (h : Nat) (v1 : Int32) (v2 : Int32) (Z : q_Z) (M : q_C) (r : Int32) (Z' : q_Z) (M' : q_C) (hf : fX6_tells h v1 v2 Z M = some (r, Z', M')) : q_le Z Z' := by
  unfold fX6_tells at hf
  obtain ⟨r_1, hw_2, hf⟩ := q_biE hf
  rcases q_ifC hf with hf | hf
  · exact moX6_tells_b14 _ _ _ _ _ _ hf
  · obtain ⟨r_3, hw_4, hf⟩ := q_biE hf
    rcases q_ifC hf with hf | hf
    · exact moX6_tells_b14 _ _ _ _ _ _ hf
    · obtain ⟨-, hf⟩ := q_gdE hf
      obtain ⟨Z_8, M_7, hw_6, hf⟩ := q_b2E hf
      have hq := moX6_traceAll _ _ _ _ _ hw_6
      exact hq.tr (moX6_tells_b22 _ _ _ _ _ _ _ _ hf)
set_option maxHeartbeats 4000000 in
set_option maxRecDepth 100000 in
theorem bX6_tells_0 (E : q_E p s m meth c cX6_tells 9 RX6 (some .int) "tells" D cA) (hR : 6 ≤ R.frames ∧ 149 ≤ R.locals) (Zi : q_Z) {Z : q_Z} (hi : q_le Zi Z) {r : Int32} {Z' : q_Z} {M' : q_C} (hbd : zS Z' - zS Zi ≤ R.cells ∧ zC Z' - zC Zi ≤ R.slots)  (h : Nat) (v1 : Int32) (v2 : Int32) (M : q_C) (H : Heap) (locs : List Loc) (ls : Array Slot) (hf : fX6_tells h v1 v2 Z M = some (r, Z', M')) (hH : q_Hh D cA z0 s Z M H locs) (hl : lv_has ls 9 [(0, .ref h), (1, .int v1), (2, .int v2)])  : W p l e R s m args below meth c H locs (zS Z - zS Zi) (zC Z - zC Zi) (MQ below (q_Q D cA z0 (some (.int r)) Z' M') args s (zS Z' - zS Zi) (zC Z' - zC Zi) (fun q => z0 ≤ q)) (F0 m 0 ls []) := by
  have hx := E.1
  have hb := E.2.1
  have hown := E.2.2.2.1
  have hT := E.2.2.2.2.2.2.2.1
  have hcc := q_bd hi (moX6_tells _ _ _ _ _ _ _ _ hf) hbd
  unfold fX6_tells at hf
  refine lv_iload_n hx hb dX6_tells_0 rfl (lv_at hl 1 rfl) ?_
  obtain ⟨r_1, hw_2, hf⟩ := q_biE hf
  refine q_cS (As := [.int v1]) (rest := []) (st1 := [.int r_1]) E hH (tX6_isStep l D cA z0 Z M v1 r_1 hw_2) mw_X6_isStep mi_X6_isStep kM_X6_101 hcc rfl rfl rfl hl.1 rfl rfl (Nat.le_of_ble_eq_true rfl) ⟨Nat.le_trans (by decide) hR.1, Nat.le_trans (by decide) hR.2⟩ dX6_tells_1 (fun H locs hH => ?_)
  refine lv_if_eq (tgt := 14) hx hb dX6_tells_4 (by decide) (fun cc_26 => ?_) (fun cc_26 => ?_)
  · replace hf := q_ifT cc_26 hf
    clear cc_26
    exact bX6_tells_14 E hR Zi hi hbd h M _ _ _  hf hH (lv_sub hl [] rfl)
  · replace hf := q_ifF cc_26 hf
    clear cc_26
    refine lv_iload_n hx hb dX6_tells_7 rfl (lv_at hl 2 rfl) ?_
    obtain ⟨r_3, hw_4, hf⟩ := q_biE hf
    refine q_cS (As := [.int v2]) (rest := []) (st1 := [.int r_3]) E hH (tX6_isStep l D cA z0 Z M v2 r_3 hw_4) mw_X6_isStep mi_X6_isStep kM_X6_101 hcc rfl rfl rfl hl.1 rfl rfl (Nat.le_of_ble_eq_true rfl) ⟨Nat.le_trans (by decide) hR.1, Nat.le_trans (by decide) hR.2⟩ dX6_tells_8 (fun H locs hH => ?_)
    refine lv_if_ne (tgt := 18) hx hb dX6_tells_11 (by decide) (fun cc_25 => ?_) (fun cc_25 => ?_)
    · replace hf := q_ifF cc_25 hf
      clear cc_25
      refine lv_aload_n hx hb dX6_tells_18 rfl (lv_at hl 0 rfl) ?_
      obtain ⟨hk_5, hf⟩ := q_gdE hf
      have hk_5 := q_keq hk_5
      obtain ⟨Z_8, M_7, hw_6, hf⟩ := q_b2E hf
      have hq1 := (moX6_traceAll _ _ _ _ _ hw_6)
      have hq := moX6_tells_b22 _ _ _ _ _ _ _ _ hf
      refine q_cV (As := []) (rest := []) (st1 := []) E hH (tX6_traceAll l D cA z0 h Z M Z_8 M_7 hw_6) mw_X6_traceAll mi_X6_traceAll (ci := 6) rfl ms_X6_traceAll kM_X6_184 hk_5 (q_bs hi hq1 hq hbd) (q_be1 hi hq1) (q_be2 hi hq1) rfl hl.1 rfl rfl (Nat.le_of_ble_eq_true rfl) ⟨Nat.le_trans (by decide) hR.1, Nat.le_trans (by decide) hR.2⟩ dX6_tells_19 (fun H locs hH => ?_)
      exact bX6_tells_22 E hR Zi (hi.tr hq1) hbd h v1 v2 M_7 _ _ _  hf hH (lv_sub hl [0, 1, 2] rfl)
    · replace hf := q_ifT cc_25 hf
      clear cc_25
      exact bX6_tells_14 E hR Zi hi hbd h M _ _ _  hf hH (lv_sub hl [] rfl)
set_option maxRecDepth 100000 in
theorem tX6_tells (l : Launch) (D : va_G) (cA : Nat → ClassId) (z0 : Nat) (h : Nat) (v1 : Int32) (v2 : Int32) (Z : q_Z) (M : q_C) (r : Int32) (Z' : q_Z) (M' : q_C) (hf : fX6_tells h v1 v2 Z M = some (r, Z', M')) : q_Ct l D cA z0 yX6_tells cX6_tells 9 (some .int) 6 149 [.ref h, .int v1, .int v2] Z M (some (.int r)) Z' M' (zS Z' - zS Z) (zC Z' - zC Z) := by
  (refine q_start (plainFor_of_name (by decide)) (Nat.le_of_ble_eq_true rfl) (fun p e s m below meth c H ls E hH hl => ?_)
   refine q_wc (c1 := zS Z - zS Z) (s1 := zC Z - zC Z) (Nat.sub_self _).symm (Nat.sub_self _).symm ?_
   exact bX6_tells_0 E ⟨Nat.le_refl _, Nat.le_refl _⟩ Z q_le.rf ⟨Nat.le_refl _, Nat.le_refl _⟩ h _ _ M H [] ls hf hH hl)
def fX6_period_b18 (h : Nat) (s0 : Int32) (Z : q_Z) (M : q_C) : Option (Int32 × q_Z × q_C) :=
  some (s0, Z, M)
theorem moX6_period_b18 (h : Nat) (s0 : Int32) (Z : q_Z) (M : q_C) (r : Int32) (Z' : q_Z) (M' : q_C) (hf : fX6_period_b18 h s0 Z M = some (r, Z', M')) : q_le Z Z' := by
  unfold fX6_period_b18 at hf
  cases hf
  exact q_le.rf
set_option maxHeartbeats 4000000 in
set_option maxRecDepth 100000 in
theorem bX6_period_18 (E : q_E p s m meth c cX6_period 3 RX6 (some .int) "period" D cA) (hR : 6 ≤ R.frames ∧ 149 ≤ R.locals) (Zi : q_Z) {Z : q_Z} (hi : q_le Zi Z) {r : Int32} {Z' : q_Z} {M' : q_C} (hbd : zS Z' - zS Zi ≤ R.cells ∧ zC Z' - zC Zi ≤ R.slots)  (h : Nat) (s0 : Int32) (M : q_C) (H : Heap) (locs : List Loc) (ls : Array Slot) (hf : fX6_period_b18 h s0 Z M = some (r, Z', M')) (hH : q_Hh D cA z0 s Z M H locs) (hl : lv_has ls 3 [])  : W p l e R s m args below meth c H locs (zS Z - zS Zi) (zC Z - zC Zi) (MQ below (q_Q D cA z0 (some (.int r)) Z' M') args s (zS Z' - zS Zi) (zC Z' - zC Zi) (fun q => z0 ≤ q)) (F0 m 18 ls [.int s0]) := by
  have hx := E.1
  have hb := E.2.1
  have hown := E.2.2.2.1
  have hT := E.2.2.2.2.2.2.2.1
  have hcc := q_bd hi (moX6_period_b18 _ _ _ _ _ _ _ hf) hbd
  unfold fX6_period_b18 at hf
  cases hf
  exact q_iret E hH dX6_period_18
def fX6_period_b5 (h : Nat) (s0 : Option Nat) (Z : q_Z) (M : q_C) : Option (Int32 × q_Z × q_C) :=
  q_on s0 (
    fX6_period_b18 h (-1 : Int32) Z M
  ) fun a_7 =>
    q_gd (zK Z a_7 == 15) <|
    Option.bind (fX5_turnTime a_7 Z M) fun r_9 =>
    fX6_period_b18 h r_9 Z M
theorem moX6_period_b5 (h : Nat) (s0 : Option Nat) (Z : q_Z) (M : q_C) (r : Int32) (Z' : q_Z) (M' : q_C) (hf : fX6_period_b5 h s0 Z M = some (r, Z', M')) : q_le Z Z' := by
  unfold fX6_period_b5 at hf
  rcases q_onC hf with hf | ⟨a_7, hf⟩
  · exact moX6_period_b18 _ _ _ _ _ _ _ hf
  · obtain ⟨-, hf⟩ := q_gdE hf
    obtain ⟨r_9, hw_10, hf⟩ := q_biE hf
    exact moX6_period_b18 _ _ _ _ _ _ _ hf
set_option maxHeartbeats 4000000 in
set_option maxRecDepth 100000 in
theorem bX6_period_5 (E : q_E p s m meth c cX6_period 3 RX6 (some .int) "period" D cA) (hR : 6 ≤ R.frames ∧ 149 ≤ R.locals) (Zi : q_Z) {Z : q_Z} (hi : q_le Zi Z) {r : Int32} {Z' : q_Z} {M' : q_C} (hbd : zS Z' - zS Zi ≤ R.cells ∧ zC Z' - zC Zi ≤ R.slots)  (h : Nat) (s0 : Option Nat) (M : q_C) (H : Heap) (locs : List Loc) (ls : Array Slot) (hf : fX6_period_b5 h s0 Z M = some (r, Z', M')) (hH : q_Hh D cA z0 s Z M H locs) (hl : lv_has ls 3 [])  : W p l e R s m args below meth c H locs (zS Z - zS Zi) (zC Z - zC Zi) (MQ below (q_Q D cA z0 (some (.int r)) Z' M') args s (zS Z' - zS Zi) (zC Z' - zC Zi) (fun q => z0 ≤ q)) (F0 m 5 ls [va_rf s0]) := by
  have hx := E.1
  have hb := E.2.1
  have hown := E.2.2.2.1
  have hT := E.2.2.2.2.2.2.2.1
  have hcc := q_bd hi (moX6_period_b5 _ _ _ _ _ _ _ hf) hbd
  unfold fX6_period_b5 at hf
  refine q_astore_n (lv' := [(2, va_rf s0)]) hx hb dX6_period_5 rfl hl (by decide) rfl (fun ls hl => ?_)
  refine q_aload_n hx hb dX6_period_6 rfl (lv_at hl 0 rfl) ?_
  refine q_ifnonnull (tgt := 14) hx hb dX6_period_7 (by decide) hf (fun cc_6 hf => ?_) (fun a_7 cc_6 hf => ?_)
  · subst cc_6
    refine lv_iconst (v := -1) hx hb dX6_period_10 (by decide) ?_
    refine lv_goto (tgt := 18) hx hb dX6_period_11 (by decide) ?_
    exact bX6_period_18 E hR Zi hi hbd h (-1 : Int32) M _ _ _  hf hH (lv_sub hl [] rfl)
  · subst cc_6
    refine lv_aload_n hx hb dX6_period_14 rfl (lv_at hl 0 rfl) ?_
    obtain ⟨hk_8, hf⟩ := q_gdE hf
    have hk_8 := q_keq hk_8
    obtain ⟨r_9, hw_10, hf⟩ := q_biE hf
    refine q_cV (As := []) (rest := []) (st1 := [.int r_9]) E hH (tX5_turnTime l D cA z0 a_7 Z M r_9 hw_10) mw_X5_turnTime mi_X5_turnTime (ci := 5) rfl ms_X5_turnTime kM_X6_207 hk_8 hcc rfl rfl rfl hl.1 rfl rfl (Nat.le_of_ble_eq_true rfl) ⟨Nat.le_trans (by decide) hR.1, Nat.le_trans (by decide) hR.2⟩ dX6_period_15 (fun H locs hH => ?_)
    exact bX6_period_18 E hR Zi hi hbd h r_9 M _ _ _  hf hH (lv_sub hl [] rfl)
def fX6_period (h : Nat) (v1 : Int32) (Z : q_Z) (M : q_C) : Option (Int32 × q_Z × q_C) :=
  q_gd (zK Z h == 16) <|
  q_b3 (fX6_tracedWay h v1 Z M) fun r_2 Z_5 M_4 =>
  fX6_period_b5 h r_2 Z_5 M_4
theorem moX6_period (h : Nat) (v1 : Int32) (Z : q_Z) (M : q_C) (r : Int32) (Z' : q_Z) (M' : q_C) (hf : fX6_period h v1 Z M = some (r, Z', M')) : q_le Z Z' := by
  unfold fX6_period at hf
  obtain ⟨-, hf⟩ := q_gdE hf
  obtain ⟨r_2, Z_5, M_4, hw_3, hf⟩ := q_b3E hf
  have hq := moX6_tracedWay _ _ _ _ _ _ _ hw_3
  exact hq.tr (moX6_period_b5 _ _ _ _ _ _ _ hf)
set_option maxHeartbeats 4000000 in
set_option maxRecDepth 100000 in
theorem bX6_period_0 (E : q_E p s m meth c cX6_period 3 RX6 (some .int) "period" D cA) (hR : 6 ≤ R.frames ∧ 149 ≤ R.locals) (Zi : q_Z) {Z : q_Z} (hi : q_le Zi Z) {r : Int32} {Z' : q_Z} {M' : q_C} (hbd : zS Z' - zS Zi ≤ R.cells ∧ zC Z' - zC Zi ≤ R.slots)  (h : Nat) (v1 : Int32) (M : q_C) (H : Heap) (locs : List Loc) (ls : Array Slot) (hf : fX6_period h v1 Z M = some (r, Z', M')) (hH : q_Hh D cA z0 s Z M H locs) (hl : lv_has ls 3 [(0, .ref h), (1, .int v1)])  : W p l e R s m args below meth c H locs (zS Z - zS Zi) (zC Z - zC Zi) (MQ below (q_Q D cA z0 (some (.int r)) Z' M') args s (zS Z' - zS Zi) (zC Z' - zC Zi) (fun q => z0 ≤ q)) (F0 m 0 ls []) := by
  have hx := E.1
  have hb := E.2.1
  have hown := E.2.2.2.1
  have hT := E.2.2.2.2.2.2.2.1
  have hcc := q_bd hi (moX6_period _ _ _ _ _ _ _ hf) hbd
  unfold fX6_period at hf
  refine lv_aload_n hx hb dX6_period_0 rfl (lv_at hl 0 rfl) ?_
  refine lv_iload_n hx hb dX6_period_1 rfl (lv_at hl 1 rfl) ?_
  obtain ⟨hk_1, hf⟩ := q_gdE hf
  have hk_1 := q_keq hk_1
  obtain ⟨r_2, Z_5, M_4, hw_3, hf⟩ := q_b3E hf
  have hq1 := (moX6_tracedWay _ _ _ _ _ _ _ hw_3)
  have hq := moX6_period_b5 _ _ _ _ _ _ _ hf
  refine q_cV (As := [.int v1]) (rest := []) (st1 := [va_rf r_2]) E hH (tX6_tracedWay l D cA z0 h v1 Z M r_2 Z_5 M_4 hw_3) mw_X6_tracedWay mi_X6_tracedWay (ci := 6) rfl ms_X6_tracedWay kM_X6_167 hk_1 (q_bs hi hq1 hq hbd) (q_be1 hi hq1) (q_be2 hi hq1) rfl hl.1 rfl rfl (Nat.le_of_ble_eq_true rfl) ⟨Nat.le_trans (by decide) hR.1, Nat.le_trans (by decide) hR.2⟩ dX6_period_2 (fun H locs hH => ?_)
  exact bX6_period_5 E hR Zi (hi.tr hq1) hbd h r_2 M_4 _ _ _  hf hH (lv_sub hl [] rfl)
set_option maxRecDepth 100000 in
theorem tX6_period (l : Launch) (D : va_G) (cA : Nat → ClassId) (z0 : Nat) (h : Nat) (v1 : Int32) (Z : q_Z) (M : q_C) (r : Int32) (Z' : q_Z) (M' : q_C) (hf : fX6_period h v1 Z M = some (r, Z', M')) : q_Ct l D cA z0 yX6_period cX6_period 3 (some .int) 6 149 [.ref h, .int v1] Z M (some (.int r)) Z' M' (zS Z' - zS Z) (zC Z' - zC Z) := by
  (refine q_start (plainFor_of_name (by decide)) (Nat.le_of_ble_eq_true rfl) (fun p e s m below meth c H ls E hH hl => ?_)
   refine q_wc (c1 := zS Z - zS Z) (s1 := zC Z - zC Z) (Nat.sub_self _).symm (Nat.sub_self _).symm ?_
   exact bX6_period_0 E ⟨Nat.le_refl _, Nat.le_refl _⟩ Z q_le.rf ⟨Nat.le_refl _, Nat.le_refl _⟩ h _ M H [] ls hf hH hl)
def fX6_span_b82 (h : Nat) (v1 : Int32) (v2 : Int32) (v3 : Int32) (Z : q_Z) (M : q_C) : Option ((Int32 × Int32) ⊕ (Unit ⊕ Int32)) :=
  q_nm (v3 + (1 : Int32)) fun v3_10 =>
  some (Sum.inl (v2, v3_10))
set_option maxHeartbeats 4000000 in
set_option maxRecDepth 100000 in
theorem bX6_span_82 {cells slots : Nat} {Q : State → Prop} (E : q_E p s m meth c cX6_span 6 RX6 (some .int) "span" D cA) (hR : 6 ≤ R.frames ∧ 149 ≤ R.locals) (hcc : cells ≤ R.cells ∧ slots ≤ R.slots) (h : Nat) (v1 : Int32) (v2 : Int32) (v3 : Int32) (Z : q_Z) (M : q_C) (H : Heap) (locs : List Loc) (ls : Array Slot) (o : (Int32 × Int32) ⊕ (Unit ⊕ Int32)) (hf : fX6_span_b82 h v1 v2 v3 Z M = some o) (hH : q_Hh D cA z0 s Z M H locs) (hl : lv_has ls 6 [(0, .ref h), (1, .int v1), (2, .int v2), (3, .int v3)]) (kb : ∀ (w2 : Int32) (w3 : Int32) (H : Heap) (locs : List Loc) (ls : Array Slot), Sum.inl (w2, w3) = o → q_Hh D cA z0 s Z M H locs → lv_has ls 6 [(0, .ref h), (1, .int v1), (2, .int w2), (3, .int w3)] → W p l e R s m args below meth c H locs cells slots Q (F0 m 18 ls [])) (kx0 : ∀  (H : Heap) (locs : List Loc) (ls : Array Slot), Sum.inr (Sum.inl ()) = o → q_Hh D cA z0 s Z M H locs → lv_has ls 6 [] → W p l e R s m args below meth c H locs cells slots Q (F0 m 54 ls [])) (kx1 : ∀ (w2 : Int32) (H : Heap) (locs : List Loc) (ls : Array Slot), Sum.inr (Sum.inr w2) = o → q_Hh D cA z0 s Z M H locs → lv_has ls 6 [(2, .int w2)] → W p l e R s m args below meth c H locs cells slots Q (F0 m 88 ls [])) : W p l e R s m args below meth c H locs cells slots Q (F0 m 82 ls []) := by
  have hx := E.1
  have hb := E.2.1
  have hown := E.2.2.2.1
  have hT := E.2.2.2.2.2.2.2.1
  unfold fX6_span_b82 at hf
  obtain ⟨v3_10, hn_11⟩ : ∃ y : Int32, y = v3 + (1 : Int32) := ⟨_, rfl⟩
  replace hf := q_nmE hn_11 hf
  refine lv_iinc (v := v3_10) (lv' := [(3, .int v3_10), (0, .ref h), (1, .int v1), (2, .int v2)]) hx hb dX6_span_82 hl (k := 3) rfl (by rw [hn_11]; rfl) (by decide) rfl (fun ls hl => ?_)
  clear hn_11
  refine lv_goto (tgt := 18) hx hb dX6_span_85 (by decide) ?_
  cases hf
  exact kb v2 v3_10 _ _ _ rfl hH (lv_sub hl [1, 2, 3, 0] rfl)
def fX6_span_b79 (h : Nat) (v1 : Int32) (v3 : Int32) (v5 : Int32) (Z : q_Z) (M : q_C) : Option ((Int32 × Int32) ⊕ (Unit ⊕ Int32)) :=
  fX6_span_b82 h v1 v5 v3 Z M
set_option maxHeartbeats 4000000 in
set_option maxRecDepth 100000 in
theorem bX6_span_79 {cells slots : Nat} {Q : State → Prop} (E : q_E p s m meth c cX6_span 6 RX6 (some .int) "span" D cA) (hR : 6 ≤ R.frames ∧ 149 ≤ R.locals) (hcc : cells ≤ R.cells ∧ slots ≤ R.slots) (h : Nat) (v1 : Int32) (v3 : Int32) (v5 : Int32) (Z : q_Z) (M : q_C) (H : Heap) (locs : List Loc) (ls : Array Slot) (o : (Int32 × Int32) ⊕ (Unit ⊕ Int32)) (hf : fX6_span_b79 h v1 v3 v5 Z M = some o) (hH : q_Hh D cA z0 s Z M H locs) (hl : lv_has ls 6 [(0, .ref h), (1, .int v1), (3, .int v3), (5, .int v5)]) (kb : ∀ (w2 : Int32) (w3 : Int32) (H : Heap) (locs : List Loc) (ls : Array Slot), Sum.inl (w2, w3) = o → q_Hh D cA z0 s Z M H locs → lv_has ls 6 [(0, .ref h), (1, .int v1), (2, .int w2), (3, .int w3)] → W p l e R s m args below meth c H locs cells slots Q (F0 m 18 ls [])) (kx0 : ∀  (H : Heap) (locs : List Loc) (ls : Array Slot), Sum.inr (Sum.inl ()) = o → q_Hh D cA z0 s Z M H locs → lv_has ls 6 [] → W p l e R s m args below meth c H locs cells slots Q (F0 m 54 ls [])) (kx1 : ∀ (w2 : Int32) (H : Heap) (locs : List Loc) (ls : Array Slot), Sum.inr (Sum.inr w2) = o → q_Hh D cA z0 s Z M H locs → lv_has ls 6 [(2, .int w2)] → W p l e R s m args below meth c H locs cells slots Q (F0 m 88 ls [])) : W p l e R s m args below meth c H locs cells slots Q (F0 m 79 ls []) := by
  have hx := E.1
  have hb := E.2.1
  have hown := E.2.2.2.1
  have hT := E.2.2.2.2.2.2.2.1
  unfold fX6_span_b79 at hf
  refine lv_iload hx hb dX6_span_79 (lv_at hl 3 rfl) ?_
  refine lv_istore_n (lv' := [(2, .int v5), (0, .ref h), (1, .int v1), (3, .int v3), (5, .int v5)]) hx hb dX6_span_81 rfl hl (by decide) rfl (fun ls hl => ?_)
  exact bX6_span_82 E hR hcc h v1 v5 v3 Z M _ _ _ _ hf hH (lv_sub hl [1, 2, 0, 3] rfl) kb kx0 kx1
def fX6_span_b47 (h : Nat) (v1 : Int32) (v2 : Int32) (v3 : Int32) (s0 : Int32) (Z : q_Z) (M : q_C) : Option ((Int32 × Int32) ⊕ (Unit ⊕ Int32)) :=
  if s0 = 0 then
    some (Sum.inr (Sum.inl ()))
  else
    if v3 = 0 then
      fX6_span_b79 h v1 v3 s0 Z M
    else
      if v1 = 0 then
        if v2 ≤ s0 then
          fX6_span_b82 h v1 v2 v3 Z M
        else
          fX6_span_b79 h v1 v3 s0 Z M
      else
        if s0 ≤ v2 then
          fX6_span_b82 h v1 v2 v3 Z M
        else
          fX6_span_b79 h v1 v3 s0 Z M
set_option maxHeartbeats 4000000 in
set_option maxRecDepth 100000 in
theorem bX6_span_47 {cells slots : Nat} {Q : State → Prop} (E : q_E p s m meth c cX6_span 6 RX6 (some .int) "span" D cA) (hR : 6 ≤ R.frames ∧ 149 ≤ R.locals) (hcc : cells ≤ R.cells ∧ slots ≤ R.slots) (h : Nat) (v1 : Int32) (v2 : Int32) (v3 : Int32) (s0 : Int32) (Z : q_Z) (M : q_C) (H : Heap) (locs : List Loc) (ls : Array Slot) (o : (Int32 × Int32) ⊕ (Unit ⊕ Int32)) (hf : fX6_span_b47 h v1 v2 v3 s0 Z M = some o) (hH : q_Hh D cA z0 s Z M H locs) (hl : lv_has ls 6 [(0, .ref h), (1, .int v1), (2, .int v2), (3, .int v3)]) (kb : ∀ (w2 : Int32) (w3 : Int32) (H : Heap) (locs : List Loc) (ls : Array Slot), Sum.inl (w2, w3) = o → q_Hh D cA z0 s Z M H locs → lv_has ls 6 [(0, .ref h), (1, .int v1), (2, .int w2), (3, .int w3)] → W p l e R s m args below meth c H locs cells slots Q (F0 m 18 ls [])) (kx0 : ∀  (H : Heap) (locs : List Loc) (ls : Array Slot), Sum.inr (Sum.inl ()) = o → q_Hh D cA z0 s Z M H locs → lv_has ls 6 [] → W p l e R s m args below meth c H locs cells slots Q (F0 m 54 ls [])) (kx1 : ∀ (w2 : Int32) (H : Heap) (locs : List Loc) (ls : Array Slot), Sum.inr (Sum.inr w2) = o → q_Hh D cA z0 s Z M H locs → lv_has ls 6 [(2, .int w2)] → W p l e R s m args below meth c H locs cells slots Q (F0 m 88 ls [])) : W p l e R s m args below meth c H locs cells slots Q (F0 m 47 ls [.int s0]) := by
  have hx := E.1
  have hb := E.2.1
  have hown := E.2.2.2.1
  have hT := E.2.2.2.2.2.2.2.1
  unfold fX6_span_b47 at hf
  refine lv_istore (lv' := [(5, .int s0), (0, .ref h), (1, .int v1), (2, .int v2), (3, .int v3)]) hx hb dX6_span_47 hl (by decide) rfl (fun ls hl => ?_)
  refine lv_iload hx hb dX6_span_49 (lv_at hl 0 rfl) ?_
  refine lv_if_ne (tgt := 56) hx hb dX6_span_51 (by decide) (fun cc_16 => ?_) (fun cc_16 => ?_)
  · replace hf := q_ifF cc_16 hf
    clear cc_16
    refine lv_iload_n hx hb dX6_span_56 rfl (lv_at hl 4 rfl) ?_
    refine lv_if_eq (tgt := 79) hx hb dX6_span_57 (by decide) (fun cc_15 => ?_) (fun cc_15 => ?_)
    · replace hf := q_ifT cc_15 hf
      clear cc_15
      exact bX6_span_79 E hR hcc h v1 v3 s0 Z M _ _ _ _ hf hH (lv_sub hl [1, 2, 4, 0] rfl) kb kx0 kx1
    · replace hf := q_ifF cc_15 hf
      clear cc_15
      refine lv_iload_n hx hb dX6_span_60 rfl (lv_at hl 2 rfl) ?_
      refine lv_if_eq (tgt := 73) hx hb dX6_span_61 (by decide) (fun cc_14 => ?_) (fun cc_14 => ?_)
      · replace hf := q_ifT cc_14 hf
        clear cc_14
        refine lv_iload hx hb dX6_span_73 (lv_at hl 0 rfl) ?_
        refine lv_iload_n hx hb dX6_span_75 rfl (lv_at hl 3 rfl) ?_
        refine lv_icmp_ge (tgt := 82) hx hb dX6_span_76 (by decide) (fun cc_12 => ?_) (fun cc_12 => ?_)
        · replace hf := q_ifT cc_12 hf
          clear cc_12
          exact bX6_span_82 E hR hcc h v1 v2 v3 Z M _ _ _ _ hf hH (lv_sub hl [1, 2, 3, 4] rfl) kb kx0 kx1
        · replace hf := q_ifF cc_12 hf
          clear cc_12
          exact bX6_span_79 E hR hcc h v1 v3 s0 Z M _ _ _ _ hf hH (lv_sub hl [1, 2, 4, 0] rfl) kb kx0 kx1
      · replace hf := q_ifF cc_14 hf
        clear cc_14
        refine lv_iload hx hb dX6_span_64 (lv_at hl 0 rfl) ?_
        refine lv_iload_n hx hb dX6_span_66 rfl (lv_at hl 3 rfl) ?_
        refine lv_icmp_le (tgt := 82) hx hb dX6_span_67 (by decide) (fun cc_13 => ?_) (fun cc_13 => ?_)
        · replace hf := q_ifT cc_13 hf
          clear cc_13
          exact bX6_span_82 E hR hcc h v1 v2 v3 Z M _ _ _ _ hf hH (lv_sub hl [1, 2, 3, 4] rfl) kb kx0 kx1
        · replace hf := q_ifF cc_13 hf
          clear cc_13
          refine lv_goto (tgt := 79) hx hb dX6_span_70 (by decide) ?_
          exact bX6_span_79 E hR hcc h v1 v3 s0 Z M _ _ _ _ hf hH (lv_sub hl [1, 2, 4, 0] rfl) kb kx0 kx1
  · replace hf := q_ifT cc_16 hf
    clear cc_16
    cases hf
    exact kx0  _ _ _ rfl hH (lv_sub hl [] rfl)
def fX6_span_L18 (h : Nat) (v1 : Int32) (v2 : Int32) (v3 : Int32) (Z : q_Z) (M : q_C) : Option ((Int32 × Int32) ⊕ (Unit ⊕ Int32)) :=
  q_gd (zK Z h == 16) <|
  if gI M h 10 ≤ v3 then
    some (Sum.inr (Sum.inr v2))
  else
    Option.bind (fX6_keptWay h v3 Z M) fun r_6 =>
    q_on r_6 (
      fX6_span_b47 h v1 v2 v3 (0 : Int32) Z M
    ) fun a_9 =>
      q_gd (zK Z a_9 == 15) <|
      Option.bind (fX5_turnTime a_9 Z M) fun r_18 =>
      fX6_span_b47 h v1 v2 v3 r_18 Z M
set_option maxHeartbeats 4000000 in
set_option maxRecDepth 100000 in
theorem lX6_span_18 {cells slots : Nat} {Q : State → Prop} (E : q_E p s m meth c cX6_span 6 RX6 (some .int) "span" D cA) (hR : 6 ≤ R.frames ∧ 149 ≤ R.locals) (hcc : cells ≤ R.cells ∧ slots ≤ R.slots)  (h : Nat) (v1 : Int32) (Z : q_Z) (M : q_C) : ∀ (n : Nat) (v2 : Int32) (v3 : Int32) (H : Heap) (locs : List Loc) (ls : Array Slot) (r : Unit ⊕ Int32), q_it (fun x => fX6_span_L18 h v1 x.1 x.2 Z M) n (v2, v3) = some r → q_Hh D cA z0 s Z M H locs → lv_has ls 6 [(0, .ref h), (1, .int v1), (2, .int v2), (3, .int v3)] → (kx0 : ∀  (H : Heap) (locs : List Loc) (ls : Array Slot), (Sum.inl ()) = r → q_Hh D cA z0 s Z M H locs → lv_has ls 6 [] → W p l e R s m args below meth c H locs cells slots Q (F0 m 54 ls [])) → (kx1 : ∀ (w2 : Int32) (H : Heap) (locs : List Loc) (ls : Array Slot), (Sum.inr w2) = r → q_Hh D cA z0 s Z M H locs → lv_has ls 6 [(2, .int w2)] → W p l e R s m args below meth c H locs cells slots Q (F0 m 88 ls [])) → W p l e R s m args below meth c H locs cells slots Q (F0 m 18 ls []) := by
  have hx := E.1
  have hb := E.2.1
  have hown := E.2.2.2.1
  have hT := E.2.2.2.2.2.2.2.1
  intro n
  induction n with
  | zero =>
    intro v2 v3 H locs ls r hf
    cases hf
  | succ n ih =>
    intro v2 v3 H locs ls r hf hH hl ky0 ky1
    obtain ⟨n1, o, hn, hf, ho⟩ := q_itE hf
    cases hn
    have hf : fX6_span_L18 h v1 v2 v3 Z M = some o := hf
    have kb : ∀ (w2 : Int32) (w3 : Int32) (H : Heap) (locs : List Loc) (ls : Array Slot), Sum.inl (w2, w3) = o → q_Hh D cA z0 s Z M H locs → lv_has ls 6 [(0, .ref h), (1, .int v1), (2, .int w2), (3, .int w3)] → W p l e R s m args below meth c H locs cells slots Q (F0 m 18 ls []) := by
      intro w2 w3 H locs ls e hH hl
      subst e
      exact ih w2 w3 H locs ls r ho hH hl ky0 ky1
    have kx0 : ∀  (H : Heap) (locs : List Loc) (ls : Array Slot), Sum.inr (Sum.inl ()) = o → q_Hh D cA z0 s Z M H locs → lv_has ls 6 [] → W p l e R s m args below meth c H locs cells slots Q (F0 m 54 ls []) := by
      intro  H locs ls e hH hl
      subst e
      exact ky0  H locs ls ho hH hl
    have kx1 : ∀ (w2 : Int32) (H : Heap) (locs : List Loc) (ls : Array Slot), Sum.inr (Sum.inr w2) = o → q_Hh D cA z0 s Z M H locs → lv_has ls 6 [(2, .int w2)] → W p l e R s m args below meth c H locs cells slots Q (F0 m 88 ls []) := by
      intro w2 H locs ls e hH hl
      subst e
      exact ky1 w2 H locs ls ho hH hl
    unfold fX6_span_L18 at hf
    refine lv_iload_n hx hb dX6_span_18 rfl (lv_at hl 3 rfl) ?_
    refine lv_aload_n hx hb dX6_span_19 rfl (lv_at hl 0 rfl) ?_
    obtain ⟨hk_5, hf⟩ := q_gdE hf
    have hk_5 := q_keq hk_5
    refine q_getI E hH (ci := 6) rfl 10 (by decide) kF_X6_50 (fun _ _ _ => rfl) hk_5 dX6_span_20 ?_
    refine lv_icmp_ge (tgt := 88) hx hb dX6_span_23 (by decide) (fun cc_20 => ?_) (fun cc_20 => ?_)
    · replace hf := q_ifT cc_20 hf
      clear cc_20
      cases hf
      exact kx1 v2 _ _ _ rfl hH (lv_sub hl [2] rfl)
    · replace hf := q_ifF cc_20 hf
      clear cc_20
      refine lv_aload_n hx hb dX6_span_26 rfl (lv_at hl 0 rfl) ?_
      refine lv_iload_n hx hb dX6_span_27 rfl (lv_at hl 3 rfl) ?_
      obtain ⟨r_6, hw_7, hf⟩ := q_biE hf
      refine q_cV (As := [.int v3]) (rest := []) (st1 := [va_rf r_6]) E hH (tX6_keptWay l D cA z0 h v3 Z M r_6 hw_7) mw_X6_keptWay mi_X6_keptWay (ci := 6) rfl ms_X6_keptWay kM_X6_143 hk_5 hcc rfl rfl rfl hl.1 rfl rfl (Nat.le_of_ble_eq_true rfl) ⟨Nat.le_trans (by decide) hR.1, Nat.le_trans (by decide) hR.2⟩ dX6_span_28 (fun H locs hH => ?_)
      refine q_astore (lv' := [(4, va_rf r_6), (0, .ref h), (1, .int v1), (2, .int v2), (3, .int v3)]) hx hb dX6_span_31 hl (by decide) rfl (fun ls hl => ?_)
      refine q_aload hx hb dX6_span_33 (lv_at hl 0 rfl) ?_
      refine q_ifnonnull (tgt := 42) hx hb dX6_span_35 (by decide) hf (fun cc_8 hf => ?_) (fun a_9 cc_8 hf => ?_)
      · subst cc_8
        refine lv_iconst (v := 0) hx hb dX6_span_38 (by decide) ?_
        refine lv_goto (tgt := 47) hx hb dX6_span_39 (by decide) ?_
        exact bX6_span_47 E hR hcc h v1 v2 v3 (0 : Int32) Z M _ _ _ _ hf hH (lv_sub hl [1, 2, 3, 4] rfl) kb kx0 kx1
      · subst cc_8
        refine lv_aload hx hb dX6_span_42 (lv_at hl 0 rfl) ?_
        obtain ⟨hk_17, hf⟩ := q_gdE hf
        have hk_17 := q_keq hk_17
        obtain ⟨r_18, hw_19, hf⟩ := q_biE hf
        refine q_cV (As := []) (rest := []) (st1 := [.int r_18]) E hH (tX5_turnTime l D cA z0 a_9 Z M r_18 hw_19) mw_X5_turnTime mi_X5_turnTime (ci := 5) rfl ms_X5_turnTime kM_X6_207 hk_17 hcc rfl rfl rfl hl.1 rfl rfl (Nat.le_of_ble_eq_true rfl) ⟨Nat.le_trans (by decide) hR.1, Nat.le_trans (by decide) hR.2⟩ dX6_span_44 (fun H locs hH => ?_)
        exact bX6_span_47 E hR hcc h v1 v2 v3 r_18 Z M _ _ _ _ hf hH (lv_sub hl [1, 2, 3, 4] rfl) kb kx0 kx1
def fX6_span_b14 (h : Nat) (v1 : Int32) (Z : q_Z) (M : q_C) : Option (Int32 × q_Z × q_C) :=
  Option.bind (q_it (fun x => fX6_span_L18 h v1 x.1 x.2 Z M) q_FU ((0 : Int32), (0 : Int32))) fun r_21 =>
  q_sm r_21 (fun e_23 =>
    some ((0 : Int32), Z, M)
  ) fun e_24 =>
  q_nm e_24 fun v2_25 =>
  some (v2_25, Z, M)
theorem moX6_span_b14 (h : Nat) (v1 : Int32) (Z : q_Z) (M : q_C) (r : Int32) (Z' : q_Z) (M' : q_C) (hf : fX6_span_b14 h v1 Z M = some (r, Z', M')) : q_le Z Z' := by
  unfold fX6_span_b14 at hf
  obtain ⟨r_21, hr_22, hf⟩ := q_biE hf
  rcases q_smC hf with ⟨e_23, hs, hf⟩ | ⟨e_24, hs, hf⟩
  · clear hs
    cases hf
    exact q_le.rf
  clear hs
  replace hf := q_nmE (x := _) rfl hf
  cases hf
  exact q_le.rf
set_option maxHeartbeats 4000000 in
set_option maxRecDepth 100000 in
theorem bX6_span_14 (E : q_E p s m meth c cX6_span 6 RX6 (some .int) "span" D cA) (hR : 6 ≤ R.frames ∧ 149 ≤ R.locals) (Zi : q_Z) {Z : q_Z} (hi : q_le Zi Z) {r : Int32} {Z' : q_Z} {M' : q_C} (hbd : zS Z' - zS Zi ≤ R.cells ∧ zC Z' - zC Zi ≤ R.slots)  (h : Nat) (v1 : Int32) (M : q_C) (H : Heap) (locs : List Loc) (ls : Array Slot) (hf : fX6_span_b14 h v1 Z M = some (r, Z', M')) (hH : q_Hh D cA z0 s Z M H locs) (hl : lv_has ls 6 [(0, .ref h), (1, .int v1)])  : W p l e R s m args below meth c H locs (zS Z - zS Zi) (zC Z - zC Zi) (MQ below (q_Q D cA z0 (some (.int r)) Z' M') args s (zS Z' - zS Zi) (zC Z' - zC Zi) (fun q => z0 ≤ q)) (F0 m 14 ls []) := by
  have hx := E.1
  have hb := E.2.1
  have hown := E.2.2.2.1
  have hT := E.2.2.2.2.2.2.2.1
  have hcc := q_bd hi (moX6_span_b14 _ _ _ _ _ _ _ hf) hbd
  unfold fX6_span_b14 at hf
  refine lv_iconst (v := 0) hx hb dX6_span_14 (by decide) ?_
  refine lv_istore_n (lv' := [(2, .int (0 : Int32)), (0, .ref h), (1, .int v1)]) hx hb dX6_span_15 rfl hl (by decide) rfl (fun ls hl => ?_)
  refine lv_iconst (v := 0) hx hb dX6_span_16 (by decide) ?_
  refine lv_istore_n (lv' := [(3, .int (0 : Int32)), (2, .int (0 : Int32)), (0, .ref h), (1, .int v1)]) hx hb dX6_span_17 rfl hl (by decide) rfl (fun ls hl => ?_)
  obtain ⟨r_21, hr_22, hf⟩ := q_biE hf
  refine lX6_span_18 E hR hcc h v1 Z M q_FU (0 : Int32) (0 : Int32) _ _ _ r_21 hr_22 hH (lv_sub hl [2, 3, 1, 0] rfl) (fun  H locs ls he_26 hH hl => ?_) (fun v2_25 H locs ls he_27 hH hl => ?_)
  · subst he_26
    replace hf := q_smL hf
    refine lv_iconst (v := 0) hx hb dX6_span_54 (by decide) ?_
    cases hf
    exact q_iret E hH dX6_span_55
  · subst he_27
    replace hf := q_smR hf
    replace hf := q_nmE (x := v2_25) rfl hf
    refine lv_iload_n hx hb dX6_span_88 rfl (lv_at hl 0 rfl) ?_
    cases hf
    exact q_iret E hH dX6_span_89
def fX6_span (h : Nat) (v1 : Int32) (Z : q_Z) (M : q_C) : Option (Int32 × q_Z × q_C) :=
  q_gd (zK Z h == 16) <|
  if (1 : Int32) ≤ gI M h 10 then
    q_b2 (fX6_traceAll h Z M) fun Z_4 M_3 =>
    fX6_span_b14 h v1 Z_4 M_3
  else
    some ((-1 : Int32), Z, M)
theorem moX6_span (h : Nat) (v1 : Int32) (Z : q_Z) (M : q_C) (r : Int32) (Z' : q_Z) (M' : q_C) (hf : fX6_span h v1 Z M = some (r, Z', M')) : q_le Z Z' := by
  unfold fX6_span at hf
  obtain ⟨-, hf⟩ := q_gdE hf
  rcases q_ifC hf with hf | hf
  · obtain ⟨Z_4, M_3, hw_2, hf⟩ := q_b2E hf
    have hq := moX6_traceAll _ _ _ _ _ hw_2
    exact hq.tr (moX6_span_b14 _ _ _ _ _ _ _ hf)
  · cases hf
    exact q_le.rf
set_option maxHeartbeats 4000000 in
set_option maxRecDepth 100000 in
theorem bX6_span_0 (E : q_E p s m meth c cX6_span 6 RX6 (some .int) "span" D cA) (hR : 6 ≤ R.frames ∧ 149 ≤ R.locals) (Zi : q_Z) {Z : q_Z} (hi : q_le Zi Z) {r : Int32} {Z' : q_Z} {M' : q_C} (hbd : zS Z' - zS Zi ≤ R.cells ∧ zC Z' - zC Zi ≤ R.slots)  (h : Nat) (v1 : Int32) (M : q_C) (H : Heap) (locs : List Loc) (ls : Array Slot) (hf : fX6_span h v1 Z M = some (r, Z', M')) (hH : q_Hh D cA z0 s Z M H locs) (hl : lv_has ls 6 [(0, .ref h), (1, .int v1)])  : W p l e R s m args below meth c H locs (zS Z - zS Zi) (zC Z - zC Zi) (MQ below (q_Q D cA z0 (some (.int r)) Z' M') args s (zS Z' - zS Zi) (zC Z' - zC Zi) (fun q => z0 ≤ q)) (F0 m 0 ls []) := by
  have hx := E.1
  have hb := E.2.1
  have hown := E.2.2.2.1
  have hT := E.2.2.2.2.2.2.2.1
  have hcc := q_bd hi (moX6_span _ _ _ _ _ _ _ hf) hbd
  unfold fX6_span at hf
  refine lv_aload_n hx hb dX6_span_0 rfl (lv_at hl 0 rfl) ?_
  obtain ⟨hk_1, hf⟩ := q_gdE hf
  have hk_1 := q_keq hk_1
  refine q_getI E hH (ci := 6) rfl 10 (by decide) kF_X6_50 (fun _ _ _ => rfl) hk_1 dX6_span_1 ?_
  refine lv_iconst (v := 1) hx hb dX6_span_4 (by decide) ?_
  refine lv_icmp_ge (tgt := 10) hx hb dX6_span_5 (by decide) (fun cc_28 => ?_) (fun cc_28 => ?_)
  · replace hf := q_ifT cc_28 hf
    clear cc_28
    refine lv_aload_n hx hb dX6_span_10 rfl (lv_at hl 0 rfl) ?_
    obtain ⟨Z_4, M_3, hw_2, hf⟩ := q_b2E hf
    have hq1 := (moX6_traceAll _ _ _ _ _ hw_2)
    have hq := moX6_span_b14 _ _ _ _ _ _ _ hf
    refine q_cV (As := []) (rest := []) (st1 := []) E hH (tX6_traceAll l D cA z0 h Z M Z_4 M_3 hw_2) mw_X6_traceAll mi_X6_traceAll (ci := 6) rfl ms_X6_traceAll kM_X6_184 hk_1 (q_bs hi hq1 hq hbd) (q_be1 hi hq1) (q_be2 hi hq1) rfl hl.1 rfl rfl (Nat.le_of_ble_eq_true rfl) ⟨Nat.le_trans (by decide) hR.1, Nat.le_trans (by decide) hR.2⟩ dX6_span_11 (fun H locs hH => ?_)
    exact bX6_span_14 E hR Zi (hi.tr hq1) hbd h v1 M_3 _ _ _  hf hH (lv_sub hl [0, 1] rfl)
  · replace hf := q_ifF cc_28 hf
    clear cc_28
    refine lv_iconst (v := -1) hx hb dX6_span_8 (by decide) ?_
    cases hf
    exact q_iret E hH dX6_span_9
set_option maxRecDepth 100000 in
theorem tX6_span (l : Launch) (D : va_G) (cA : Nat → ClassId) (z0 : Nat) (h : Nat) (v1 : Int32) (Z : q_Z) (M : q_C) (r : Int32) (Z' : q_Z) (M' : q_C) (hf : fX6_span h v1 Z M = some (r, Z', M')) : q_Ct l D cA z0 yX6_span cX6_span 6 (some .int) 6 149 [.ref h, .int v1] Z M (some (.int r)) Z' M' (zS Z' - zS Z) (zC Z' - zC Z) := by
  (refine q_start (plainFor_of_name (by decide)) (Nat.le_of_ble_eq_true rfl) (fun p e s m below meth c H ls E hH hl => ?_)
   refine q_wc (c1 := zS Z - zS Z) (s1 := zC Z - zC Z) (Nat.sub_self _).symm (Nat.sub_self _).symm ?_
   exact bX6_span_0 E ⟨Nat.le_refl _, Nat.le_refl _⟩ Z q_le.rf ⟨Nat.le_refl _, Nat.le_refl _⟩ h _ M H [] ls hf hH hl)
def fX6_near_b27 (h : Nat) (Z : q_Z) (M : q_C) : Option (Int64 × q_Z × q_C) :=
  some ((-1 : Int64), Z, M)
theorem moX6_near_b27 (h : Nat) (Z : q_Z) (M : q_C) (r : Int64) (Z' : q_Z) (M' : q_C) (hf : fX6_near_b27 h Z M = some (r, Z', M')) : q_le Z Z' := by
  unfold fX6_near_b27 at hf
  cases hf
  exact q_le.rf
set_option maxHeartbeats 4000000 in
set_option maxRecDepth 100000 in
theorem bX6_near_27 (E : q_E p s m meth c cX6_near 13 RX6 (some .long) "near" D cA) (hR : 6 ≤ R.frames ∧ 149 ≤ R.locals) (Zi : q_Z) {Z : q_Z} (hi : q_le Zi Z) {r : Int64} {Z' : q_Z} {M' : q_C} (hbd : zS Z' - zS Zi ≤ R.cells ∧ zC Z' - zC Zi ≤ R.slots)  (h : Nat) (M : q_C) (H : Heap) (locs : List Loc) (ls : Array Slot) (hf : fX6_near_b27 h Z M = some (r, Z', M')) (hH : q_Hh D cA z0 s Z M H locs) (hl : lv_has ls 13 [])  : W p l e R s m args below meth c H locs (zS Z - zS Zi) (zC Z - zC Zi) (MQ below (q_Q D cA z0 (some (.long r)) Z' M') args s (zS Z' - zS Zi) (zC Z' - zC Zi) (fun q => z0 ≤ q)) (F0 m 27 ls []) := by
  have hx := E.1
  have hb := E.2.1
  have hown := E.2.2.2.1
  have hT := E.2.2.2.2.2.2.2.1
  have hcc := q_bd hi (moX6_near_b27 _ _ _ _ _ _ hf) hbd
  unfold fX6_near_b27 at hf
  refine lv_ldc2 hx hb hown (hT.1 _ _ kK_X6_201) dX6_near_27 ?_
  cases hf
  exact q_lret E hH dX6_near_30
def fX6_near_b147 (h : Nat) (v3 : Int32) (v4 : Int32) (v5 : Int32) (v6 : Int64) (v8 : Int32) (v9 : Int32) (v10 : Int32) (Z : q_Z) (M : q_C) : Option ((Int64 × Int32 × Int32) ⊕ (Int64 × Int32)) :=
  q_nm (v10 + (1 : Int32)) fun v10_10 =>
  some (Sum.inl (v6, v8, v10_10))
set_option maxHeartbeats 4000000 in
set_option maxRecDepth 100000 in
theorem bX6_near_147 {cells slots : Nat} {Q : State → Prop} (E : q_E p s m meth c cX6_near 13 RX6 (some .long) "near" D cA) (hR : 6 ≤ R.frames ∧ 149 ≤ R.locals) (hcc : cells ≤ R.cells ∧ slots ≤ R.slots) (h : Nat) (v3 : Int32) (v4 : Int32) (v5 : Int32) (v6 : Int64) (v8 : Int32) (v9 : Int32) (v10 : Int32) (Z : q_Z) (M : q_C) (H : Heap) (locs : List Loc) (ls : Array Slot) (o : (Int64 × Int32 × Int32) ⊕ (Int64 × Int32)) (hf : fX6_near_b147 h v3 v4 v5 v6 v8 v9 v10 Z M = some o) (hH : q_Hh D cA z0 s Z M H locs) (hl : lv_has ls 13 [(0, .ref h), (3, .int v3), (4, .int v4), (5, .int v5), (6, .long v6), (8, .int v8), (9, .int v9), (10, .int v10)]) (kb : ∀ (w6 : Int64) (w8 : Int32) (w10 : Int32) (H : Heap) (locs : List Loc) (ls : Array Slot), Sum.inl (w6, w8, w10) = o → q_Hh D cA z0 s Z M H locs → lv_has ls 13 [(0, .ref h), (3, .int v3), (4, .int v4), (5, .int v5), (6, .long w6), (8, .int w8), (9, .int v9), (10, .int w10)] → W p l e R s m args below meth c H locs cells slots Q (F0 m 92 ls [])) (kx0 : ∀ (w6 : Int64) (w8 : Int32) (H : Heap) (locs : List Loc) (ls : Array Slot), Sum.inr (w6, w8) = o → q_Hh D cA z0 s Z M H locs → lv_has ls 13 [(0, .ref h), (3, .int v3), (4, .int v4), (5, .int v5), (6, .long w6), (8, .int w8), (9, .int v9)] → W p l e R s m args below meth c H locs cells slots Q (F0 m 153 ls [])) : W p l e R s m args below meth c H locs cells slots Q (F0 m 147 ls []) := by
  have hx := E.1
  have hb := E.2.1
  have hown := E.2.2.2.1
  have hT := E.2.2.2.2.2.2.2.1
  unfold fX6_near_b147 at hf
  obtain ⟨v10_10, hn_11⟩ : ∃ y : Int32, y = v10 + (1 : Int32) := ⟨_, rfl⟩
  replace hf := q_nmE hn_11 hf
  refine lv_iinc (v := v10_10) (lv' := [(10, .int v10_10), (0, .ref h), (3, .int v3), (4, .int v4), (5, .int v5), (6, .long v6), (8, .int v8), (9, .int v9)]) hx hb dX6_near_147 hl (k := 7) rfl (by rw [hn_11]; rfl) (by decide) rfl (fun ls hl => ?_)
  clear hn_11
  refine lv_goto (tgt := 92) hx hb dX6_near_150 (by decide) ?_
  cases hf
  exact kb v6 v8 v10_10 _ _ _ rfl hH (lv_sub hl [1, 2, 3, 4, 5, 6, 7, 0] rfl)
def fX6_near_b139 (h : Nat) (v3 : Int32) (v4 : Int32) (v5 : Int32) (v9 : Int32) (v10 : Int32) (v11 : Int64) (Z : q_Z) (M : q_C) : Option ((Int64 × Int32 × Int32) ⊕ (Int64 × Int32)) :=
  fX6_near_b147 h v3 v4 v5 v11 v9 v9 v10 Z M
set_option maxHeartbeats 4000000 in
set_option maxRecDepth 100000 in
theorem bX6_near_139 {cells slots : Nat} {Q : State → Prop} (E : q_E p s m meth c cX6_near 13 RX6 (some .long) "near" D cA) (hR : 6 ≤ R.frames ∧ 149 ≤ R.locals) (hcc : cells ≤ R.cells ∧ slots ≤ R.slots) (h : Nat) (v3 : Int32) (v4 : Int32) (v5 : Int32) (v9 : Int32) (v10 : Int32) (v11 : Int64) (Z : q_Z) (M : q_C) (H : Heap) (locs : List Loc) (ls : Array Slot) (o : (Int64 × Int32 × Int32) ⊕ (Int64 × Int32)) (hf : fX6_near_b139 h v3 v4 v5 v9 v10 v11 Z M = some o) (hH : q_Hh D cA z0 s Z M H locs) (hl : lv_has ls 13 [(0, .ref h), (3, .int v3), (4, .int v4), (5, .int v5), (9, .int v9), (10, .int v10), (11, .long v11)]) (kb : ∀ (w6 : Int64) (w8 : Int32) (w10 : Int32) (H : Heap) (locs : List Loc) (ls : Array Slot), Sum.inl (w6, w8, w10) = o → q_Hh D cA z0 s Z M H locs → lv_has ls 13 [(0, .ref h), (3, .int v3), (4, .int v4), (5, .int v5), (6, .long w6), (8, .int w8), (9, .int v9), (10, .int w10)] → W p l e R s m args below meth c H locs cells slots Q (F0 m 92 ls [])) (kx0 : ∀ (w6 : Int64) (w8 : Int32) (H : Heap) (locs : List Loc) (ls : Array Slot), Sum.inr (w6, w8) = o → q_Hh D cA z0 s Z M H locs → lv_has ls 13 [(0, .ref h), (3, .int v3), (4, .int v4), (5, .int v5), (6, .long w6), (8, .int w8), (9, .int v9)] → W p l e R s m args below meth c H locs cells slots Q (F0 m 153 ls [])) : W p l e R s m args below meth c H locs cells slots Q (F0 m 139 ls []) := by
  have hx := E.1
  have hb := E.2.1
  have hown := E.2.2.2.1
  have hT := E.2.2.2.2.2.2.2.1
  unfold fX6_near_b139 at hf
  refine lv_lload hx hb dX6_near_139 (lv_at hl 6 rfl) ?_
  refine lv_lstore (lv' := [(6, .long v11), (0, .ref h), (3, .int v3), (4, .int v4), (5, .int v5), (9, .int v9), (10, .int v10), (11, .long v11)]) hx hb dX6_near_141 hl (by decide) rfl (fun ls hl => ?_)
  refine lv_iload hx hb dX6_near_143 (lv_at hl 5 rfl) ?_
  refine lv_istore (lv' := [(8, .int v9), (6, .long v11), (0, .ref h), (3, .int v3), (4, .int v4), (5, .int v5), (9, .int v9), (10, .int v10), (11, .long v11)]) hx hb dX6_near_145 hl (by decide) rfl (fun ls hl => ?_)
  exact bX6_near_147 E hR hcc h v3 v4 v5 v11 v9 v9 v10 Z M _ _ _ _ hf hH (lv_sub hl [2, 3, 4, 5, 1, 0, 6, 7] rfl) kb kx0
def fX6_near_L92 (h : Nat) (v3 : Int32) (v4 : Int32) (v5 : Int32) (v9 : Int32) (v6 : Int64) (v8 : Int32) (v10 : Int32) (Z : q_Z) (M : q_C) : Option ((Int64 × Int32 × Int32) ⊕ (Int64 × Int32)) :=
  if v5 ≤ v10 then
    some (Sum.inr (v6, v8))
  else
    q_gd (zK Z h == 16) <|
    Option.bind (fX6_keptWay h v10 Z M) fun r_6 =>
    Option.bind (fX6_squareFromEarth h r_6 v9 Z M) fun r_8 =>
    if r_8 = (-1 : Int64) then
      fX6_near_b147 h v3 v4 v5 v6 v8 v9 v10 Z M
    else
      if v6 = (-1 : Int64) then
        fX6_near_b139 h v3 v4 v5 v9 v10 r_8 Z M
      else
        if v6 ≤ r_8 then
          fX6_near_b147 h v3 v4 v5 v6 v8 v9 v10 Z M
        else
          fX6_near_b139 h v3 v4 v5 v9 v10 r_8 Z M
set_option maxHeartbeats 4000000 in
set_option maxRecDepth 100000 in
theorem lX6_near_92 {cells slots : Nat} {Q : State → Prop} (E : q_E p s m meth c cX6_near 13 RX6 (some .long) "near" D cA) (hR : 6 ≤ R.frames ∧ 149 ≤ R.locals) (hcc : cells ≤ R.cells ∧ slots ≤ R.slots)  (h : Nat) (v3 : Int32) (v4 : Int32) (v5 : Int32) (v9 : Int32) (Z : q_Z) (M : q_C) : ∀ (n : Nat) (v6 : Int64) (v8 : Int32) (v10 : Int32) (H : Heap) (locs : List Loc) (ls : Array Slot) (r : (Int64 × Int32)), q_it (fun x => fX6_near_L92 h v3 v4 v5 v9 x.1 x.2.1 x.2.2 Z M) n (v6, v8, v10) = some r → q_Hh D cA z0 s Z M H locs → lv_has ls 13 [(0, .ref h), (3, .int v3), (4, .int v4), (5, .int v5), (6, .long v6), (8, .int v8), (9, .int v9), (10, .int v10)] → (kx0 : ∀ (w6 : Int64) (w8 : Int32) (H : Heap) (locs : List Loc) (ls : Array Slot), (w6, w8) = r → q_Hh D cA z0 s Z M H locs → lv_has ls 13 [(0, .ref h), (3, .int v3), (4, .int v4), (5, .int v5), (6, .long w6), (8, .int w8), (9, .int v9)] → W p l e R s m args below meth c H locs cells slots Q (F0 m 153 ls [])) → W p l e R s m args below meth c H locs cells slots Q (F0 m 92 ls []) := by
  have hx := E.1
  have hb := E.2.1
  have hown := E.2.2.2.1
  have hT := E.2.2.2.2.2.2.2.1
  intro n
  induction n with
  | zero =>
    intro v6 v8 v10 H locs ls r hf
    cases hf
  | succ n ih =>
    intro v6 v8 v10 H locs ls r hf hH hl ky0
    obtain ⟨n1, o, hn, hf, ho⟩ := q_itE hf
    cases hn
    have hf : fX6_near_L92 h v3 v4 v5 v9 v6 v8 v10 Z M = some o := hf
    have kb : ∀ (w6 : Int64) (w8 : Int32) (w10 : Int32) (H : Heap) (locs : List Loc) (ls : Array Slot), Sum.inl (w6, w8, w10) = o → q_Hh D cA z0 s Z M H locs → lv_has ls 13 [(0, .ref h), (3, .int v3), (4, .int v4), (5, .int v5), (6, .long w6), (8, .int w8), (9, .int v9), (10, .int w10)] → W p l e R s m args below meth c H locs cells slots Q (F0 m 92 ls []) := by
      intro w6 w8 w10 H locs ls e hH hl
      subst e
      exact ih w6 w8 w10 H locs ls r ho hH hl ky0
    have kx0 : ∀ (w6 : Int64) (w8 : Int32) (H : Heap) (locs : List Loc) (ls : Array Slot), Sum.inr (w6, w8) = o → q_Hh D cA z0 s Z M H locs → lv_has ls 13 [(0, .ref h), (3, .int v3), (4, .int v4), (5, .int v5), (6, .long w6), (8, .int w8), (9, .int v9)] → W p l e R s m args below meth c H locs cells slots Q (F0 m 153 ls []) := by
      intro w6 w8 H locs ls e hH hl
      subst e
      exact ky0 w6 w8 H locs ls ho hH hl
    unfold fX6_near_L92 at hf
    refine lv_iload hx hb dX6_near_92 (lv_at hl 7 rfl) ?_
    refine lv_iload hx hb dX6_near_94 (lv_at hl 3 rfl) ?_
    refine lv_icmp_ge (tgt := 153) hx hb dX6_near_96 (by decide) (fun cc_15 => ?_) (fun cc_15 => ?_)
    · replace hf := q_ifT cc_15 hf
      clear cc_15
      cases hf
      exact kx0 v6 v8 _ _ _ rfl hH (lv_sub hl [0, 1, 2, 3, 4, 5, 6] rfl)
    · replace hf := q_ifF cc_15 hf
      clear cc_15
      refine lv_aload_n hx hb dX6_near_99 rfl (lv_at hl 0 rfl) ?_
      refine lv_aload_n hx hb dX6_near_100 rfl (lv_at hl 0 rfl) ?_
      refine lv_iload hx hb dX6_near_101 (lv_at hl 7 rfl) ?_
      obtain ⟨hk_5, hf⟩ := q_gdE hf
      have hk_5 := q_keq hk_5
      obtain ⟨r_6, hw_7, hf⟩ := q_biE hf
      refine q_cV (As := [.int v10]) (rest := [.ref h]) (st1 := [va_rf r_6, .ref h]) E hH (tX6_keptWay l D cA z0 h v10 Z M r_6 hw_7) mw_X6_keptWay mi_X6_keptWay (ci := 6) rfl ms_X6_keptWay kM_X6_143 hk_5 hcc rfl rfl rfl hl.1 rfl rfl (Nat.le_of_ble_eq_true rfl) ⟨Nat.le_trans (by decide) hR.1, Nat.le_trans (by decide) hR.2⟩ dX6_near_103 (fun H locs hH => ?_)
      refine lv_iload hx hb dX6_near_106 (lv_at hl 6 rfl) ?_
      obtain ⟨r_8, hw_9, hf⟩ := q_biE hf
      refine q_cV (As := [va_rf r_6, .int v9]) (rest := []) (st1 := [.long r_8]) E hH (tX6_squareFromEarth l D cA z0 h r_6 v9 Z M r_8 hw_9) mw_X6_squareFromEarth mi_X6_squareFromEarth (ci := 6) rfl ms_X6_squareFromEarth kM_X6_211 hk_5 hcc rfl rfl rfl hl.1 rfl rfl (Nat.le_of_ble_eq_true rfl) ⟨Nat.le_trans (by decide) hR.1, Nat.le_trans (by decide) hR.2⟩ dX6_near_108 (fun H locs hH => ?_)
      refine lv_lstore (lv' := [(11, .long r_8), (0, .ref h), (3, .int v3), (4, .int v4), (5, .int v5), (6, .long v6), (8, .int v8), (9, .int v9), (10, .int v10)]) hx hb dX6_near_111 hl (by decide) rfl (fun ls hl => ?_)
      refine lv_lload hx hb dX6_near_113 (lv_at hl 0 rfl) ?_
      refine lv_ldc2 hx hb hown (hT.1 _ _ kK_X6_201) dX6_near_115 ?_
      refine q_lcmp_eq (pc1 := 119) (tgt := 147) hx hb dX6_near_118 rfl dX6_near_119 (by decide) (fun cc_14 => ?_) (fun cc_14 => ?_)
      · replace hf := q_ifT cc_14 hf
        clear cc_14
        exact bX6_near_147 E hR hcc h v3 v4 v5 v6 v8 v9 v10 Z M _ _ _ _ hf hH (lv_sub hl [1, 2, 3, 4, 5, 6, 7, 8] rfl) kb kx0
      · replace hf := q_ifF cc_14 hf
        clear cc_14
        refine lv_lload hx hb dX6_near_122 (lv_at hl 5 rfl) ?_
        refine lv_ldc2 hx hb hown (hT.1 _ _ kK_X6_201) dX6_near_124 ?_
        refine q_lcmp_eq (pc1 := 128) (tgt := 139) hx hb dX6_near_127 rfl dX6_near_128 (by decide) (fun cc_13 => ?_) (fun cc_13 => ?_)
        · replace hf := q_ifT cc_13 hf
          clear cc_13
          exact bX6_near_139 E hR hcc h v3 v4 v5 v9 v10 r_8 Z M _ _ _ _ hf hH (lv_sub hl [1, 2, 3, 4, 7, 8, 0] rfl) kb kx0
        · replace hf := q_ifF cc_13 hf
          clear cc_13
          refine lv_lload hx hb dX6_near_131 (lv_at hl 0 rfl) ?_
          refine lv_lload hx hb dX6_near_133 (lv_at hl 5 rfl) ?_
          refine q_lcmp_ge (pc1 := 136) (tgt := 147) hx hb dX6_near_135 rfl dX6_near_136 (by decide) (fun cc_12 => ?_) (fun cc_12 => ?_)
          · replace hf := q_ifT cc_12 hf
            clear cc_12
            exact bX6_near_147 E hR hcc h v3 v4 v5 v6 v8 v9 v10 Z M _ _ _ _ hf hH (lv_sub hl [1, 2, 3, 4, 5, 6, 7, 8] rfl) kb kx0
          · replace hf := q_ifF cc_12 hf
            clear cc_12
            exact bX6_near_139 E hR hcc h v3 v4 v5 v9 v10 r_8 Z M _ _ _ _ hf hH (lv_sub hl [1, 2, 3, 4, 7, 8, 0] rfl) kb kx0
def fX6_near_L82 (h : Nat) (v3 : Int32) (v4 : Int32) (v5 : Int32) (v6 : Int64) (v8 : Int32) (v9 : Int32) (Z : q_Z) (M : q_C) : Option ((Int64 × Int32 × Int32) ⊕ (Int64 × Int32)) :=
  if v3 < v9 then
    some (Sum.inr (v6, v8))
  else
    Option.bind (q_it (fun x => fX6_near_L92 h v3 v4 v5 v9 x.1 x.2.1 x.2.2 Z M) q_FU (v6, v8, v4)) fun r_16 =>
    q_nm r_16.1 fun v6_18 =>
    q_nm r_16.2 fun v8_19 =>
    q_nm (v9 + (1 : Int32)) fun v9_20 =>
    some (Sum.inl (v6_18, v8_19, v9_20))
set_option maxHeartbeats 4000000 in
set_option maxRecDepth 100000 in
theorem lX6_near_82 {cells slots : Nat} {Q : State → Prop} (E : q_E p s m meth c cX6_near 13 RX6 (some .long) "near" D cA) (hR : 6 ≤ R.frames ∧ 149 ≤ R.locals) (hcc : cells ≤ R.cells ∧ slots ≤ R.slots)  (h : Nat) (v3 : Int32) (v4 : Int32) (v5 : Int32) (Z : q_Z) (M : q_C) : ∀ (n : Nat) (v6 : Int64) (v8 : Int32) (v9 : Int32) (H : Heap) (locs : List Loc) (ls : Array Slot) (r : (Int64 × Int32)), q_it (fun x => fX6_near_L82 h v3 v4 v5 x.1 x.2.1 x.2.2 Z M) n (v6, v8, v9) = some r → q_Hh D cA z0 s Z M H locs → lv_has ls 13 [(0, .ref h), (3, .int v3), (4, .int v4), (5, .int v5), (6, .long v6), (8, .int v8), (9, .int v9)] → (kx0 : ∀ (w6 : Int64) (w8 : Int32) (H : Heap) (locs : List Loc) (ls : Array Slot), (w6, w8) = r → q_Hh D cA z0 s Z M H locs → lv_has ls 13 [(0, .ref h), (6, .long w6), (8, .int w8)] → W p l e R s m args below meth c H locs cells slots Q (F0 m 159 ls [])) → W p l e R s m args below meth c H locs cells slots Q (F0 m 82 ls []) := by
  have hx := E.1
  have hb := E.2.1
  have hown := E.2.2.2.1
  have hT := E.2.2.2.2.2.2.2.1
  intro n
  induction n with
  | zero =>
    intro v6 v8 v9 H locs ls r hf
    cases hf
  | succ n ih =>
    intro v6 v8 v9 H locs ls r hf hH hl ky0
    obtain ⟨n1, o, hn, hf, ho⟩ := q_itE hf
    cases hn
    have hf : fX6_near_L82 h v3 v4 v5 v6 v8 v9 Z M = some o := hf
    have kb : ∀ (w6 : Int64) (w8 : Int32) (w9 : Int32) (H : Heap) (locs : List Loc) (ls : Array Slot), Sum.inl (w6, w8, w9) = o → q_Hh D cA z0 s Z M H locs → lv_has ls 13 [(0, .ref h), (3, .int v3), (4, .int v4), (5, .int v5), (6, .long w6), (8, .int w8), (9, .int w9)] → W p l e R s m args below meth c H locs cells slots Q (F0 m 82 ls []) := by
      intro w6 w8 w9 H locs ls e hH hl
      subst e
      exact ih w6 w8 w9 H locs ls r ho hH hl ky0
    have kx0 : ∀ (w6 : Int64) (w8 : Int32) (H : Heap) (locs : List Loc) (ls : Array Slot), Sum.inr (w6, w8) = o → q_Hh D cA z0 s Z M H locs → lv_has ls 13 [(0, .ref h), (6, .long w6), (8, .int w8)] → W p l e R s m args below meth c H locs cells slots Q (F0 m 159 ls []) := by
      intro w6 w8 H locs ls e hH hl
      subst e
      exact ky0 w6 w8 H locs ls ho hH hl
    unfold fX6_near_L82 at hf
    refine lv_iload hx hb dX6_near_82 (lv_at hl 6 rfl) ?_
    refine lv_iload_n hx hb dX6_near_84 rfl (lv_at hl 1 rfl) ?_
    refine lv_icmp_gt (tgt := 159) hx hb dX6_near_85 (by decide) (fun cc_23 => ?_) (fun cc_23 => ?_)
    · replace hf := q_ifT cc_23 hf
      clear cc_23
      cases hf
      exact kx0 v6 v8 _ _ _ rfl hH (lv_sub hl [0, 4, 5] rfl)
    · replace hf := q_ifF cc_23 hf
      clear cc_23
      refine lv_iload hx hb dX6_near_88 (lv_at hl 2 rfl) ?_
      refine lv_istore (lv' := [(10, .int v4), (0, .ref h), (3, .int v3), (4, .int v4), (5, .int v5), (6, .long v6), (8, .int v8), (9, .int v9)]) hx hb dX6_near_90 hl (by decide) rfl (fun ls hl => ?_)
      obtain ⟨r_16, hr_17, hf⟩ := q_biE hf
      refine lX6_near_92 E hR hcc h v3 v4 v5 v9 Z M q_FU v6 v8 v4 _ _ _ r_16 hr_17 hH (lv_sub hl [1, 2, 3, 4, 5, 6, 7, 0] rfl) (fun v6_18 v8_19 H locs ls he_22 hH hl => ?_)
      · subst he_22
        replace hf := q_nmE (x := v6_18) rfl hf
        replace hf := q_nmE (x := v8_19) rfl hf
        obtain ⟨v9_20, hn_21⟩ : ∃ y : Int32, y = v9 + (1 : Int32) := ⟨_, rfl⟩
        replace hf := q_nmE hn_21 hf
        refine lv_iinc (v := v9_20) (lv' := [(9, .int v9_20), (0, .ref h), (3, .int v3), (4, .int v4), (5, .int v5), (6, .long v6_18), (8, .int v8_19)]) hx hb dX6_near_153 hl (k := 6) rfl (by rw [hn_21]; rfl) (by decide) rfl (fun ls hl => ?_)
        clear hn_21
        refine lv_goto (tgt := 82) hx hb dX6_near_156 (by decide) ?_
        cases hf
        exact kb v6_18 v8_19 v9_20 _ _ _ rfl hH (lv_sub hl [1, 2, 3, 4, 5, 6, 0] rfl)
def fX6_near_b174 (h : Nat) (v6 : Int64) (Z : q_Z) (M : q_C) : Option (Int64 × q_Z × q_C) :=
  some (v6, Z, M)
theorem moX6_near_b174 (h : Nat) (v6 : Int64) (Z : q_Z) (M : q_C) (r : Int64) (Z' : q_Z) (M' : q_C) (hf : fX6_near_b174 h v6 Z M = some (r, Z', M')) : q_le Z Z' := by
  unfold fX6_near_b174 at hf
  cases hf
  exact q_le.rf
set_option maxHeartbeats 4000000 in
set_option maxRecDepth 100000 in
theorem bX6_near_174 (E : q_E p s m meth c cX6_near 13 RX6 (some .long) "near" D cA) (hR : 6 ≤ R.frames ∧ 149 ≤ R.locals) (Zi : q_Z) {Z : q_Z} (hi : q_le Zi Z) {r : Int64} {Z' : q_Z} {M' : q_C} (hbd : zS Z' - zS Zi ≤ R.cells ∧ zC Z' - zC Zi ≤ R.slots)  (h : Nat) (v6 : Int64) (M : q_C) (H : Heap) (locs : List Loc) (ls : Array Slot) (hf : fX6_near_b174 h v6 Z M = some (r, Z', M')) (hH : q_Hh D cA z0 s Z M H locs) (hl : lv_has ls 13 [(6, .long v6)])  : W p l e R s m args below meth c H locs (zS Z - zS Zi) (zC Z - zC Zi) (MQ below (q_Q D cA z0 (some (.long r)) Z' M') args s (zS Z' - zS Zi) (zC Z' - zC Zi) (fun q => z0 ≤ q)) (F0 m 174 ls []) := by
  have hx := E.1
  have hb := E.2.1
  have hown := E.2.2.2.1
  have hT := E.2.2.2.2.2.2.2.1
  have hcc := q_bd hi (moX6_near_b174 _ _ _ _ _ _ _ hf) hbd
  unfold fX6_near_b174 at hf
  refine lv_lload hx hb dX6_near_174 (lv_at hl 0 rfl) ?_
  cases hf
  exact q_lret E hH dX6_near_176
def fX6_near_b67 (h : Nat) (v2 : Int32) (v3 : Int32) (v4 : Int32) (s0 : Int32) (Z : q_Z) (M : q_C) : Option (Int64 × q_Z × q_C) :=
  Option.bind (q_it (fun x => fX6_near_L82 h v3 v4 s0 x.1 x.2.1 x.2.2 Z M) q_FU ((-1 : Int64), (-1000 : Int32), v2)) fun r_24 =>
  q_nm r_24.1 fun v6_26 =>
  q_nm r_24.2 fun v8_27 =>
  if v6_26 = (-1 : Int64) then
    fX6_near_b174 h v6_26 Z M
  else
    q_gd (zK Z h == 16) <|
    q_nm (sI M h 11 v8_27) fun M_29 =>
    fX6_near_b174 h v6_26 Z M_29
theorem moX6_near_b67 (h : Nat) (v2 : Int32) (v3 : Int32) (v4 : Int32) (s0 : Int32) (Z : q_Z) (M : q_C) (r : Int64) (Z' : q_Z) (M' : q_C) (hf : fX6_near_b67 h v2 v3 v4 s0 Z M = some (r, Z', M')) : q_le Z Z' := by
  unfold fX6_near_b67 at hf
  obtain ⟨r_24, hr_25, hf⟩ := q_biE hf
  replace hf := q_nmE (x := _) rfl hf
  replace hf := q_nmE (x := _) rfl hf
  rcases q_ifC hf with hf | hf
  · exact moX6_near_b174 _ _ _ _ _ _ _ hf
  · obtain ⟨-, hf⟩ := q_gdE hf
    replace hf := q_nmE (x := _) rfl hf
    exact moX6_near_b174 _ _ _ _ _ _ _ hf
set_option maxHeartbeats 4000000 in
set_option maxRecDepth 100000 in
theorem bX6_near_67 (E : q_E p s m meth c cX6_near 13 RX6 (some .long) "near" D cA) (hR : 6 ≤ R.frames ∧ 149 ≤ R.locals) (Zi : q_Z) {Z : q_Z} (hi : q_le Zi Z) {r : Int64} {Z' : q_Z} {M' : q_C} (hbd : zS Z' - zS Zi ≤ R.cells ∧ zC Z' - zC Zi ≤ R.slots)  (h : Nat) (v2 : Int32) (v3 : Int32) (v4 : Int32) (s0 : Int32) (M : q_C) (H : Heap) (locs : List Loc) (ls : Array Slot) (hf : fX6_near_b67 h v2 v3 v4 s0 Z M = some (r, Z', M')) (hH : q_Hh D cA z0 s Z M H locs) (hl : lv_has ls 13 [(0, .ref h), (2, .int v2), (3, .int v3), (4, .int v4)])  : W p l e R s m args below meth c H locs (zS Z - zS Zi) (zC Z - zC Zi) (MQ below (q_Q D cA z0 (some (.long r)) Z' M') args s (zS Z' - zS Zi) (zC Z' - zC Zi) (fun q => z0 ≤ q)) (F0 m 67 ls [.int s0]) := by
  have hx := E.1
  have hb := E.2.1
  have hown := E.2.2.2.1
  have hT := E.2.2.2.2.2.2.2.1
  have hcc := q_bd hi (moX6_near_b67 _ _ _ _ _ _ _ _ _ _ hf) hbd
  unfold fX6_near_b67 at hf
  refine lv_istore (lv' := [(5, .int s0), (0, .ref h), (2, .int v2), (3, .int v3), (4, .int v4)]) hx hb dX6_near_67 hl (by decide) rfl (fun ls hl => ?_)
  refine lv_ldc2 hx hb hown (hT.1 _ _ kK_X6_201) dX6_near_69 ?_
  refine lv_lstore (lv' := [(6, .long (-1 : Int64)), (5, .int s0), (0, .ref h), (2, .int v2), (3, .int v3), (4, .int v4)]) hx hb dX6_near_72 hl (by decide) rfl (fun ls hl => ?_)
  refine lv_sipush (v := -1000) hx hb dX6_near_74 (by decide) ?_
  refine lv_istore (lv' := [(8, .int (-1000 : Int32)), (6, .long (-1 : Int64)), (5, .int s0), (0, .ref h), (2, .int v2), (3, .int v3), (4, .int v4)]) hx hb dX6_near_77 hl (by decide) rfl (fun ls hl => ?_)
  refine lv_iload_n hx hb dX6_near_79 rfl (lv_at hl 4 rfl) ?_
  refine lv_istore (lv' := [(9, .int v2), (8, .int (-1000 : Int32)), (6, .long (-1 : Int64)), (5, .int s0), (0, .ref h), (2, .int v2), (3, .int v3), (4, .int v4)]) hx hb dX6_near_80 hl (by decide) rfl (fun ls hl => ?_)
  obtain ⟨r_24, hr_25, hf⟩ := q_biE hf
  refine lX6_near_82 E hR hcc h v3 v4 s0 Z M q_FU (-1 : Int64) (-1000 : Int32) v2 _ _ _ r_24 hr_25 hH (lv_sub hl [4, 6, 7, 3, 2, 1, 0] rfl) (fun v6_26 v8_27 H locs ls he_31 hH hl => ?_)
  · subst he_31
    replace hf := q_nmE (x := v6_26) rfl hf
    replace hf := q_nmE (x := v8_27) rfl hf
    refine lv_lload hx hb dX6_near_159 (lv_at hl 1 rfl) ?_
    refine lv_ldc2 hx hb hown (hT.1 _ _ kK_X6_201) dX6_near_161 ?_
    refine q_lcmp_eq (pc1 := 165) (tgt := 174) hx hb dX6_near_164 rfl dX6_near_165 (by decide) (fun cc_30 => ?_) (fun cc_30 => ?_)
    · replace hf := q_ifT cc_30 hf
      clear cc_30
      exact bX6_near_174 E hR Zi hi hbd h v6_26 M _ _ _  hf hH (lv_sub hl [1] rfl)
    · replace hf := q_ifF cc_30 hf
      clear cc_30
      refine lv_aload_n hx hb dX6_near_168 rfl (lv_at hl 0 rfl) ?_
      refine lv_iload hx hb dX6_near_169 (lv_at hl 2 rfl) ?_
      obtain ⟨hk_28, hf⟩ := q_gdE hf
      have hk_28 := q_keq hk_28
      refine q_putI E hH (ci := 6) rfl 11 (by decide) kF_X6_53 rfl (fun _ _ _ => rfl) (x := v8_27) hk_28 rfl rfl dX6_near_171 hf (fun M_29 H locs hH hf => ?_)
      exact bX6_near_174 E hR Zi hi hbd h v6_26 M_29 _ _ _  hf hH (lv_sub hl [1] rfl)
def fX6_near_b50 (h : Nat) (v1 : Int32) (v2 : Int32) (v3 : Int32) (s0 : Int32) (Z : q_Z) (M : q_C) : Option (Int64 × q_Z × q_C) :=
  if v1 = (-1 : Int32) then
    q_gd (zK Z h == 16) <|
    fX6_near_b67 h v2 v3 s0 (gI M h 10) Z M
  else
    fX6_near_b67 h v2 v3 s0 (v1 + (1 : Int32)) Z M
theorem moX6_near_b50 (h : Nat) (v1 : Int32) (v2 : Int32) (v3 : Int32) (s0 : Int32) (Z : q_Z) (M : q_C) (r : Int64) (Z' : q_Z) (M' : q_C) (hf : fX6_near_b50 h v1 v2 v3 s0 Z M = some (r, Z', M')) : q_le Z Z' := by
  unfold fX6_near_b50 at hf
  rcases q_ifC hf with hf | hf
  · obtain ⟨-, hf⟩ := q_gdE hf
    exact moX6_near_b67 _ _ _ _ _ _ _ _ _ _ hf
  · exact moX6_near_b67 _ _ _ _ _ _ _ _ _ _ hf
set_option maxHeartbeats 4000000 in
set_option maxRecDepth 100000 in
theorem bX6_near_50 (E : q_E p s m meth c cX6_near 13 RX6 (some .long) "near" D cA) (hR : 6 ≤ R.frames ∧ 149 ≤ R.locals) (Zi : q_Z) {Z : q_Z} (hi : q_le Zi Z) {r : Int64} {Z' : q_Z} {M' : q_C} (hbd : zS Z' - zS Zi ≤ R.cells ∧ zC Z' - zC Zi ≤ R.slots)  (h : Nat) (v1 : Int32) (v2 : Int32) (v3 : Int32) (s0 : Int32) (M : q_C) (H : Heap) (locs : List Loc) (ls : Array Slot) (hf : fX6_near_b50 h v1 v2 v3 s0 Z M = some (r, Z', M')) (hH : q_Hh D cA z0 s Z M H locs) (hl : lv_has ls 13 [(0, .ref h), (1, .int v1), (2, .int v2), (3, .int v3)])  : W p l e R s m args below meth c H locs (zS Z - zS Zi) (zC Z - zC Zi) (MQ below (q_Q D cA z0 (some (.long r)) Z' M') args s (zS Z' - zS Zi) (zC Z' - zC Zi) (fun q => z0 ≤ q)) (F0 m 50 ls [.int s0]) := by
  have hx := E.1
  have hb := E.2.1
  have hown := E.2.2.2.1
  have hT := E.2.2.2.2.2.2.2.1
  have hcc := q_bd hi (moX6_near_b50 _ _ _ _ _ _ _ _ _ _ hf) hbd
  unfold fX6_near_b50 at hf
  refine lv_istore (lv' := [(4, .int s0), (0, .ref h), (1, .int v1), (2, .int v2), (3, .int v3)]) hx hb dX6_near_50 hl (by decide) rfl (fun ls hl => ?_)
  refine lv_iload_n hx hb dX6_near_52 rfl (lv_at hl 2 rfl) ?_
  refine lv_iconst (v := -1) hx hb dX6_near_53 (by decide) ?_
  refine lv_icmp_ne (tgt := 64) hx hb dX6_near_54 (by decide) (fun cc_33 => ?_) (fun cc_33 => ?_)
  · replace hf := q_ifF cc_33 hf
    clear cc_33
    refine lv_iload_n hx hb dX6_near_64 rfl (lv_at hl 2 rfl) ?_
    refine lv_iconst (v := 1) hx hb dX6_near_65 (by decide) ?_
    refine lv_iadd hx hb dX6_near_66 ?_
    exact bX6_near_67 E hR Zi hi hbd h v2 v3 s0 (v1 + (1 : Int32)) M _ _ _  hf hH (lv_sub hl [1, 3, 4, 0] rfl)
  · replace hf := q_ifT cc_33 hf
    clear cc_33
    refine lv_aload_n hx hb dX6_near_57 rfl (lv_at hl 1 rfl) ?_
    obtain ⟨hk_32, hf⟩ := q_gdE hf
    have hk_32 := q_keq hk_32
    refine q_getI E hH (ci := 6) rfl 10 (by decide) kF_X6_50 (fun _ _ _ => rfl) hk_32 dX6_near_58 ?_
    refine lv_goto (tgt := 67) hx hb dX6_near_61 (by decide) ?_
    exact bX6_near_67 E hR Zi hi hbd h v2 v3 s0 (gI M h 10) M _ _ _  hf hH (lv_sub hl [1, 3, 4, 0] rfl)
def fX6_near_b40 (h : Nat) (v1 : Int32) (v2 : Int32) (v3 : Int32) (Z : q_Z) (M : q_C) : Option (Int64 × q_Z × q_C) :=
  if v1 = (-1 : Int32) then
    fX6_near_b50 h v1 v2 v3 (0 : Int32) Z M
  else
    fX6_near_b50 h v1 v2 v3 v1 Z M
theorem moX6_near_b40 (h : Nat) (v1 : Int32) (v2 : Int32) (v3 : Int32) (Z : q_Z) (M : q_C) (r : Int64) (Z' : q_Z) (M' : q_C) (hf : fX6_near_b40 h v1 v2 v3 Z M = some (r, Z', M')) : q_le Z Z' := by
  unfold fX6_near_b40 at hf
  rcases q_ifC hf with hf | hf
  · exact moX6_near_b50 _ _ _ _ _ _ _ _ _ _ hf
  · exact moX6_near_b50 _ _ _ _ _ _ _ _ _ _ hf
set_option maxHeartbeats 4000000 in
set_option maxRecDepth 100000 in
theorem bX6_near_40 (E : q_E p s m meth c cX6_near 13 RX6 (some .long) "near" D cA) (hR : 6 ≤ R.frames ∧ 149 ≤ R.locals) (Zi : q_Z) {Z : q_Z} (hi : q_le Zi Z) {r : Int64} {Z' : q_Z} {M' : q_C} (hbd : zS Z' - zS Zi ≤ R.cells ∧ zC Z' - zC Zi ≤ R.slots)  (h : Nat) (v1 : Int32) (v2 : Int32) (v3 : Int32) (M : q_C) (H : Heap) (locs : List Loc) (ls : Array Slot) (hf : fX6_near_b40 h v1 v2 v3 Z M = some (r, Z', M')) (hH : q_Hh D cA z0 s Z M H locs) (hl : lv_has ls 13 [(0, .ref h), (1, .int v1), (2, .int v2), (3, .int v3)])  : W p l e R s m args below meth c H locs (zS Z - zS Zi) (zC Z - zC Zi) (MQ below (q_Q D cA z0 (some (.long r)) Z' M') args s (zS Z' - zS Zi) (zC Z' - zC Zi) (fun q => z0 ≤ q)) (F0 m 40 ls []) := by
  have hx := E.1
  have hb := E.2.1
  have hown := E.2.2.2.1
  have hT := E.2.2.2.2.2.2.2.1
  have hcc := q_bd hi (moX6_near_b40 _ _ _ _ _ _ _ _ _ hf) hbd
  unfold fX6_near_b40 at hf
  refine lv_iload_n hx hb dX6_near_40 rfl (lv_at hl 1 rfl) ?_
  refine lv_iconst (v := -1) hx hb dX6_near_41 (by decide) ?_
  refine lv_icmp_ne (tgt := 49) hx hb dX6_near_42 (by decide) (fun cc_34 => ?_) (fun cc_34 => ?_)
  · replace hf := q_ifF cc_34 hf
    clear cc_34
    refine lv_iload_n hx hb dX6_near_49 rfl (lv_at hl 1 rfl) ?_
    exact bX6_near_50 E hR Zi hi hbd h v1 v2 v3 v1 M _ _ _  hf hH (lv_sub hl [0, 1, 2, 3] rfl)
  · replace hf := q_ifT cc_34 hf
    clear cc_34
    refine lv_iconst (v := 0) hx hb dX6_near_45 (by decide) ?_
    refine lv_goto (tgt := 50) hx hb dX6_near_46 (by decide) ?_
    exact bX6_near_50 E hR Zi hi hbd h v1 v2 v3 (0 : Int32) M _ _ _  hf hH (lv_sub hl [0, 1, 2, 3] rfl)
def fX6_near_b31 (h : Nat) (v1 : Int32) (v2 : Int32) (v3 : Int32) (Z : q_Z) (M : q_C) : Option (Int64 × q_Z × q_C) :=
  if v1 = (-1 : Int32) then
    q_gd (zK Z h == 16) <|
    q_b2 (fX6_traceAll h Z M) fun Z_38 M_37 =>
    fX6_near_b40 h v1 v2 v3 Z_38 M_37
  else
    fX6_near_b40 h v1 v2 v3 Z M
theorem moX6_near_b31 (h : Nat) (v1 : Int32) (v2 : Int32) (v3 : Int32) (Z : q_Z) (M : q_C) (r : Int64) (Z' : q_Z) (M' : q_C) (hf : fX6_near_b31 h v1 v2 v3 Z M = some (r, Z', M')) : q_le Z Z' := by
  unfold fX6_near_b31 at hf
  rcases q_ifC hf with hf | hf
  · obtain ⟨-, hf⟩ := q_gdE hf
    obtain ⟨Z_38, M_37, hw_36, hf⟩ := q_b2E hf
    have hq := moX6_traceAll _ _ _ _ _ hw_36
    exact hq.tr (moX6_near_b40 _ _ _ _ _ _ _ _ _ hf)
  · exact moX6_near_b40 _ _ _ _ _ _ _ _ _ hf
set_option maxHeartbeats 4000000 in
set_option maxRecDepth 100000 in
theorem bX6_near_31 (E : q_E p s m meth c cX6_near 13 RX6 (some .long) "near" D cA) (hR : 6 ≤ R.frames ∧ 149 ≤ R.locals) (Zi : q_Z) {Z : q_Z} (hi : q_le Zi Z) {r : Int64} {Z' : q_Z} {M' : q_C} (hbd : zS Z' - zS Zi ≤ R.cells ∧ zC Z' - zC Zi ≤ R.slots)  (h : Nat) (v1 : Int32) (v2 : Int32) (v3 : Int32) (M : q_C) (H : Heap) (locs : List Loc) (ls : Array Slot) (hf : fX6_near_b31 h v1 v2 v3 Z M = some (r, Z', M')) (hH : q_Hh D cA z0 s Z M H locs) (hl : lv_has ls 13 [(0, .ref h), (1, .int v1), (2, .int v2), (3, .int v3)])  : W p l e R s m args below meth c H locs (zS Z - zS Zi) (zC Z - zC Zi) (MQ below (q_Q D cA z0 (some (.long r)) Z' M') args s (zS Z' - zS Zi) (zC Z' - zC Zi) (fun q => z0 ≤ q)) (F0 m 31 ls []) := by
  have hx := E.1
  have hb := E.2.1
  have hown := E.2.2.2.1
  have hT := E.2.2.2.2.2.2.2.1
  have hcc := q_bd hi (moX6_near_b31 _ _ _ _ _ _ _ _ _ hf) hbd
  unfold fX6_near_b31 at hf
  refine lv_iload_n hx hb dX6_near_31 rfl (lv_at hl 1 rfl) ?_
  refine lv_iconst (v := -1) hx hb dX6_near_32 (by decide) ?_
  refine lv_icmp_ne (tgt := 40) hx hb dX6_near_33 (by decide) (fun cc_39 => ?_) (fun cc_39 => ?_)
  · replace hf := q_ifF cc_39 hf
    clear cc_39
    exact bX6_near_40 E hR Zi hi hbd h v1 v2 v3 M _ _ _  hf hH (lv_sub hl [0, 1, 2, 3] rfl)
  · replace hf := q_ifT cc_39 hf
    clear cc_39
    refine lv_aload_n hx hb dX6_near_36 rfl (lv_at hl 0 rfl) ?_
    obtain ⟨hk_35, hf⟩ := q_gdE hf
    have hk_35 := q_keq hk_35
    obtain ⟨Z_38, M_37, hw_36, hf⟩ := q_b2E hf
    have hq1 := (moX6_traceAll _ _ _ _ _ hw_36)
    have hq := moX6_near_b40 _ _ _ _ _ _ _ _ _ hf
    refine q_cV (As := []) (rest := []) (st1 := []) E hH (tX6_traceAll l D cA z0 h Z M Z_38 M_37 hw_36) mw_X6_traceAll mi_X6_traceAll (ci := 6) rfl ms_X6_traceAll kM_X6_184 hk_35 (q_bs hi hq1 hq hbd) (q_be1 hi hq1) (q_be2 hi hq1) rfl hl.1 rfl rfl (Nat.le_of_ble_eq_true rfl) ⟨Nat.le_trans (by decide) hR.1, Nat.le_trans (by decide) hR.2⟩ dX6_near_37 (fun H locs hH => ?_)
    exact bX6_near_40 E hR Zi (hi.tr hq1) hbd h v1 v2 v3 M_37 _ _ _  hf hH (lv_sub hl [0, 1, 2, 3] rfl)
def fX6_near_b24 (h : Nat) (v1 : Int32) (v2 : Int32) (v3 : Int32) (s0 : Option Nat) (Z : q_Z) (M : q_C) : Option (Int64 × q_Z × q_C) :=
  q_on s0 (
    fX6_near_b27 h Z M
  ) fun a_46 =>
    fX6_near_b31 h v1 v2 v3 Z M
theorem moX6_near_b24 (h : Nat) (v1 : Int32) (v2 : Int32) (v3 : Int32) (s0 : Option Nat) (Z : q_Z) (M : q_C) (r : Int64) (Z' : q_Z) (M' : q_C) (hf : fX6_near_b24 h v1 v2 v3 s0 Z M = some (r, Z', M')) : q_le Z Z' := by
  unfold fX6_near_b24 at hf
  rcases q_onC hf with hf | ⟨a_46, hf⟩
  · exact moX6_near_b27 _ _ _ _ _ _ hf
  · exact moX6_near_b31 _ _ _ _ _ _ _ _ _ hf
set_option maxHeartbeats 4000000 in
set_option maxRecDepth 100000 in
theorem bX6_near_24 (E : q_E p s m meth c cX6_near 13 RX6 (some .long) "near" D cA) (hR : 6 ≤ R.frames ∧ 149 ≤ R.locals) (Zi : q_Z) {Z : q_Z} (hi : q_le Zi Z) {r : Int64} {Z' : q_Z} {M' : q_C} (hbd : zS Z' - zS Zi ≤ R.cells ∧ zC Z' - zC Zi ≤ R.slots)  (h : Nat) (v1 : Int32) (v2 : Int32) (v3 : Int32) (s0 : Option Nat) (M : q_C) (H : Heap) (locs : List Loc) (ls : Array Slot) (hf : fX6_near_b24 h v1 v2 v3 s0 Z M = some (r, Z', M')) (hH : q_Hh D cA z0 s Z M H locs) (hl : lv_has ls 13 [(0, .ref h), (1, .int v1), (2, .int v2), (3, .int v3)])  : W p l e R s m args below meth c H locs (zS Z - zS Zi) (zC Z - zC Zi) (MQ below (q_Q D cA z0 (some (.long r)) Z' M') args s (zS Z' - zS Zi) (zC Z' - zC Zi) (fun q => z0 ≤ q)) (F0 m 24 ls [va_rf s0]) := by
  have hx := E.1
  have hb := E.2.1
  have hown := E.2.2.2.1
  have hT := E.2.2.2.2.2.2.2.1
  have hcc := q_bd hi (moX6_near_b24 _ _ _ _ _ _ _ _ _ _ hf) hbd
  unfold fX6_near_b24 at hf
  refine q_ifnonnull (tgt := 31) hx hb dX6_near_24 (by decide) hf (fun cc_45 hf => ?_) (fun a_46 cc_45 hf => ?_)
  · subst cc_45
    exact bX6_near_27 E hR Zi hi hbd h M _ _ _  hf hH (lv_sub hl [] rfl)
  · subst cc_45
    exact bX6_near_31 E hR Zi hi hbd h v1 v2 v3 M _ _ _  hf hH (lv_sub hl [0, 1, 2, 3] rfl)
def fX6_near (h : Nat) (v1 : Int32) (v2 : Int32) (v3 : Int32) (Z : q_Z) (M : q_C) : Option (Int64 × q_Z × q_C) :=
  Option.bind (fX6_isStep v2) fun r_1 =>
  if r_1 = 0 then
    fX6_near_b27 h Z M
  else
    Option.bind (fX6_isStep v3) fun r_3 =>
    if r_3 = 0 then
      fX6_near_b27 h Z M
    else
      if v1 = (-1 : Int32) then
        fX6_near_b31 h v1 v2 v3 Z M
      else
        q_gd (zK Z h == 16) <|
        q_b3 (fX6_tracedWay h v1 Z M) fun r_41 Z_44 M_43 =>
        fX6_near_b24 h v1 v2 v3 r_41 Z_44 M_43
theorem moX6_near (h : Nat) (v1 : Int32) (v2 : Int32) (v3 : Int32) (Z : q_Z) (M : q_C) (r : Int64) (Z' : q_Z) (M' : q_C) (hf : fX6_near h v1 v2 v3 Z M = some (r, Z', M')) : q_le Z Z' := by
  unfold fX6_near at hf
  obtain ⟨r_1, hw_2, hf⟩ := q_biE hf
  rcases q_ifC hf with hf | hf
  · exact moX6_near_b27 _ _ _ _ _ _ hf
  · obtain ⟨r_3, hw_4, hf⟩ := q_biE hf
    rcases q_ifC hf with hf | hf
    · exact moX6_near_b27 _ _ _ _ _ _ hf
    · rcases q_ifC hf with hf | hf
      · exact moX6_near_b31 _ _ _ _ _ _ _ _ _ hf
      · obtain ⟨-, hf⟩ := q_gdE hf
        obtain ⟨r_41, Z_44, M_43, hw_42, hf⟩ := q_b3E hf
        have hq := moX6_tracedWay _ _ _ _ _ _ _ hw_42
        exact hq.tr (moX6_near_b24 _ _ _ _ _ _ _ _ _ _ hf)
set_option maxHeartbeats 4000000 in
set_option maxRecDepth 100000 in
theorem bX6_near_0 (E : q_E p s m meth c cX6_near 13 RX6 (some .long) "near" D cA) (hR : 6 ≤ R.frames ∧ 149 ≤ R.locals) (Zi : q_Z) {Z : q_Z} (hi : q_le Zi Z) {r : Int64} {Z' : q_Z} {M' : q_C} (hbd : zS Z' - zS Zi ≤ R.cells ∧ zC Z' - zC Zi ≤ R.slots)  (h : Nat) (v1 : Int32) (v2 : Int32) (v3 : Int32) (M : q_C) (H : Heap) (locs : List Loc) (ls : Array Slot) (hf : fX6_near h v1 v2 v3 Z M = some (r, Z', M')) (hH : q_Hh D cA z0 s Z M H locs) (hl : lv_has ls 13 [(0, .ref h), (1, .int v1), (2, .int v2), (3, .int v3)])  : W p l e R s m args below meth c H locs (zS Z - zS Zi) (zC Z - zC Zi) (MQ below (q_Q D cA z0 (some (.long r)) Z' M') args s (zS Z' - zS Zi) (zC Z' - zC Zi) (fun q => z0 ≤ q)) (F0 m 0 ls []) := by
  have hx := E.1
  have hb := E.2.1
  have hown := E.2.2.2.1
  have hT := E.2.2.2.2.2.2.2.1
  have hcc := q_bd hi (moX6_near _ _ _ _ _ _ _ _ _ hf) hbd
  unfold fX6_near at hf
  refine lv_iload_n hx hb dX6_near_0 rfl (lv_at hl 2 rfl) ?_
  obtain ⟨r_1, hw_2, hf⟩ := q_biE hf
  refine q_cS (As := [.int v2]) (rest := []) (st1 := [.int r_1]) E hH (tX6_isStep l D cA z0 Z M v2 r_1 hw_2) mw_X6_isStep mi_X6_isStep kM_X6_101 hcc rfl rfl rfl hl.1 rfl rfl (Nat.le_of_ble_eq_true rfl) ⟨Nat.le_trans (by decide) hR.1, Nat.le_trans (by decide) hR.2⟩ dX6_near_1 (fun H locs hH => ?_)
  refine lv_if_eq (tgt := 27) hx hb dX6_near_4 (by decide) (fun cc_49 => ?_) (fun cc_49 => ?_)
  · replace hf := q_ifT cc_49 hf
    clear cc_49
    exact bX6_near_27 E hR Zi hi hbd h M _ _ _  hf hH (lv_sub hl [] rfl)
  · replace hf := q_ifF cc_49 hf
    clear cc_49
    refine lv_iload_n hx hb dX6_near_7 rfl (lv_at hl 3 rfl) ?_
    obtain ⟨r_3, hw_4, hf⟩ := q_biE hf
    refine q_cS (As := [.int v3]) (rest := []) (st1 := [.int r_3]) E hH (tX6_isStep l D cA z0 Z M v3 r_3 hw_4) mw_X6_isStep mi_X6_isStep kM_X6_101 hcc rfl rfl rfl hl.1 rfl rfl (Nat.le_of_ble_eq_true rfl) ⟨Nat.le_trans (by decide) hR.1, Nat.le_trans (by decide) hR.2⟩ dX6_near_8 (fun H locs hH => ?_)
    refine lv_if_eq (tgt := 27) hx hb dX6_near_11 (by decide) (fun cc_48 => ?_) (fun cc_48 => ?_)
    · replace hf := q_ifT cc_48 hf
      clear cc_48
      exact bX6_near_27 E hR Zi hi hbd h M _ _ _  hf hH (lv_sub hl [] rfl)
    · replace hf := q_ifF cc_48 hf
      clear cc_48
      refine lv_iload_n hx hb dX6_near_14 rfl (lv_at hl 1 rfl) ?_
      refine lv_iconst (v := -1) hx hb dX6_near_15 (by decide) ?_
      refine lv_icmp_eq (tgt := 31) hx hb dX6_near_16 (by decide) (fun cc_47 => ?_) (fun cc_47 => ?_)
      · replace hf := q_ifT cc_47 hf
        clear cc_47
        exact bX6_near_31 E hR Zi hi hbd h v1 v2 v3 M _ _ _  hf hH (lv_sub hl [0, 1, 2, 3] rfl)
      · replace hf := q_ifF cc_47 hf
        clear cc_47
        refine lv_aload_n hx hb dX6_near_19 rfl (lv_at hl 0 rfl) ?_
        refine lv_iload_n hx hb dX6_near_20 rfl (lv_at hl 1 rfl) ?_
        obtain ⟨hk_40, hf⟩ := q_gdE hf
        have hk_40 := q_keq hk_40
        obtain ⟨r_41, Z_44, M_43, hw_42, hf⟩ := q_b3E hf
        have hq1 := (moX6_tracedWay _ _ _ _ _ _ _ hw_42)
        have hq := moX6_near_b24 _ _ _ _ _ _ _ _ _ _ hf
        refine q_cV (As := [.int v1]) (rest := []) (st1 := [va_rf r_41]) E hH (tX6_tracedWay l D cA z0 h v1 Z M r_41 Z_44 M_43 hw_42) mw_X6_tracedWay mi_X6_tracedWay (ci := 6) rfl ms_X6_tracedWay kM_X6_167 hk_40 (q_bs hi hq1 hq hbd) (q_be1 hi hq1) (q_be2 hi hq1) rfl hl.1 rfl rfl (Nat.le_of_ble_eq_true rfl) ⟨Nat.le_trans (by decide) hR.1, Nat.le_trans (by decide) hR.2⟩ dX6_near_21 (fun H locs hH => ?_)
        exact bX6_near_24 E hR Zi (hi.tr hq1) hbd h v1 v2 v3 r_41 M_43 _ _ _  hf hH (lv_sub hl [0, 1, 2, 3] rfl)
set_option maxRecDepth 100000 in
theorem tX6_near (l : Launch) (D : va_G) (cA : Nat → ClassId) (z0 : Nat) (h : Nat) (v1 : Int32) (v2 : Int32) (v3 : Int32) (Z : q_Z) (M : q_C) (r : Int64) (Z' : q_Z) (M' : q_C) (hf : fX6_near h v1 v2 v3 Z M = some (r, Z', M')) : q_Ct l D cA z0 yX6_near cX6_near 13 (some .long) 6 149 [.ref h, .int v1, .int v2, .int v3] Z M (some (.long r)) Z' M' (zS Z' - zS Z) (zC Z' - zC Z) := by
  (refine q_start (plainFor_of_name (by decide)) (Nat.le_of_ble_eq_true rfl) (fun p e s m below meth c H ls E hH hl => ?_)
   refine q_wc (c1 := zS Z - zS Z) (s1 := zC Z - zC Z) (Nat.sub_self _).symm (Nat.sub_self _).symm ?_
   exact bX6_near_0 E ⟨Nat.le_refl _, Nat.le_refl _⟩ Z q_le.rf ⟨Nat.le_refl _, Nat.le_refl _⟩ h _ _ _ M H [] ls hf hH hl)
end Q243
