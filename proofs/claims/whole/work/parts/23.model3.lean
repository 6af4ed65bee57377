section Q233
variable {p : Program} {l : Launch} {e : Env} {R : Room} {s : State} {m : MethodId} {args : Array Value} {below : List Frame} {meth : Method} {c : Code} {D : va_G} {cA : Nat → ClassId} {z0 : Nat}
def fX7_fitsAll_b79 (h : Nat) (v1 : Int32) (v2 : Int32) (v3 : Int32) (v4 : Int32) (Z : q_Z) (M : q_C) : Option ((Int32 × Int32) ⊕ Int32) :=
  q_nm (v4 + (1 : Int32)) fun v4_2 =>
  some (Sum.inl (v3, v4_2))
set_option maxHeartbeats 4000000 in
set_option maxRecDepth 100000 in
theorem bX7_fitsAll_79 {cells slots : Nat} {Q : State → Prop} (E : q_E p s m meth c cX7_fitsAll 6 RX7 (some .boolean) "fitsAll" D cA) (hR : 2 ≤ R.frames ∧ 63 ≤ R.locals) (hcc : cells ≤ R.cells ∧ slots ≤ R.slots) (h : Nat) (v1 : Int32) (v2 : Int32) (v3 : Int32) (v4 : Int32) (Z : q_Z) (M : q_C) (H : Heap) (locs : List Loc) (ls : Array Slot) (o : (Int32 × Int32) ⊕ Int32) (hf : fX7_fitsAll_b79 h v1 v2 v3 v4 Z M = some o) (hH : q_Hh D cA z0 s Z M H locs) (hl : lv_has ls 6 [(0, .ref h), (1, .int v1), (2, .int v2), (3, .int v3), (4, .int v4)]) (kb : ∀ (w3 : Int32) (w4 : Int32) (H : Heap) (locs : List Loc) (ls : Array Slot), Sum.inl (w3, w4) = o → q_Hh D cA z0 s Z M H locs → lv_has ls 6 [(0, .ref h), (1, .int v1), (2, .int v2), (3, .int w3), (4, .int w4)] → W p l e R s m args below meth c H locs cells slots Q (F0 m 5 ls [])) (kx0 : ∀ (w3 : Int32) (H : Heap) (locs : List Loc) (ls : Array Slot), Sum.inr w3 = o → q_Hh D cA z0 s Z M H locs → lv_has ls 6 [(3, .int w3)] → W p l e R s m args below meth c H locs cells slots Q (F0 m 85 ls [])) : W p l e R s m args below meth c H locs cells slots Q (F0 m 79 ls []) := by
  have hx := E.1
  have hb := E.2.1
  have hown := E.2.2.2.1
  have hT := E.2.2.2.2.2.2.2.1
  unfold fX7_fitsAll_b79 at hf
  obtain ⟨v4_2, hn_3⟩ : ∃ y : Int32, y = v4 + (1 : Int32) := ⟨_, rfl⟩
  replace hf := q_nmE hn_3 hf
  refine lv_iinc (v := v4_2) (lv' := [(4, .int v4_2), (0, .ref h), (1, .int v1), (2, .int v2), (3, .int v3)]) hx hb dX7_fitsAll_79 hl (k := 4) rfl (by rw [hn_3]; rfl) (by decide) rfl (fun ls hl => ?_)
  clear hn_3
  refine lv_goto (tgt := 5) hx hb dX7_fitsAll_82 (by decide) ?_
  cases hf
  exact kb v3 v4_2 _ _ _ rfl hH (lv_sub hl [1, 2, 3, 4, 0] rfl)
def fX7_fitsAll_L5 (h : Nat) (v1 : Int32) (v2 : Int32) (v3 : Int32) (v4 : Int32) (Z : q_Z) (M : q_C) : Option ((Int32 × Int32) ⊕ Int32) :=
  q_gd (zK Z h == 17) <|
  if gI M h 6 ≤ v4 then
    some (Sum.inr v3)
  else
    if v3 = 0 then
      some (Sum.inr v3)
    else
      if v4 = v2 then
        fX7_fitsAll_b79 h v1 v2 v3 v4 Z M
      else
        Option.bind (gR M h 7) fun a_4 =>
        q_gd (q_ok Z a_4 1 ((5 : Int32) * v4)) <|
        if gI M a_4 ((5 : Int32) * v4).toNatClampNeg = (2 : Int32) then
          fX7_fitsAll_b79 h v1 v2 v3 v4 Z M
        else
          Option.bind (gR M h 7) fun a_7 =>
          q_gd (q_ok Z a_7 1 (((5 : Int32) * v4) + (1 : Int32))) <|
          q_nm (gI M a_7 (((5 : Int32) * v4) + (1 : Int32)).toNatClampNeg) fun v5_10 =>
          Option.bind (fX7_now h (0 : Int32) v5_10 (0 : Int32) Z M) fun r_12 =>
          Option.bind (fX7_now h (0 : Int32) v5_10 (1 : Int32) Z M) fun r_14 =>
          Option.bind (fX7_fitsAt h v1 v4 r_12.toInt64 r_14.toInt64 Z M) fun r_16 =>
          fX7_fitsAll_b79 h v1 v2 r_16 v4 Z M
set_option maxHeartbeats 4000000 in
set_option maxRecDepth 100000 in
theorem lX7_fitsAll_5 {cells slots : Nat} {Q : State → Prop} (E : q_E p s m meth c cX7_fitsAll 6 RX7 (some .boolean) "fitsAll" D cA) (hR : 2 ≤ R.frames ∧ 63 ≤ R.locals) (hcc : cells ≤ R.cells ∧ slots ≤ R.slots)  (h : Nat) (v1 : Int32) (v2 : Int32) (Z : q_Z) (M : q_C) : ∀ (n : Nat) (v3 : Int32) (v4 : Int32) (H : Heap) (locs : List Loc) (ls : Array Slot) (r : Int32), q_it (fun x => fX7_fitsAll_L5 h v1 v2 x.1 x.2 Z M) n (v3, v4) = some r → q_Hh D cA z0 s Z M H locs → lv_has ls 6 [(0, .ref h), (1, .int v1), (2, .int v2), (3, .int v3), (4, .int v4)] → (kx0 : ∀ (w3 : Int32) (H : Heap) (locs : List Loc) (ls : Array Slot), w3 = r → q_Hh D cA z0 s Z M H locs → lv_has ls 6 [(3, .int w3)] → W p l e R s m args below meth c H locs cells slots Q (F0 m 85 ls [])) → W p l e R s m args below meth c H locs cells slots Q (F0 m 5 ls []) := by
  have hx := E.1
  have hb := E.2.1
  have hown := E.2.2.2.1
  have hT := E.2.2.2.2.2.2.2.1
  intro n
  induction n with
  | zero =>
    intro v3 v4 H locs ls r hf
    cases hf
  | succ n ih =>
    intro v3 v4 H locs ls r hf hH hl ky0
    obtain ⟨n1, o, hn, hf, ho⟩ := q_itE hf
    cases hn
    have hf : fX7_fitsAll_L5 h v1 v2 v3 v4 Z M = some o := hf
    have kb : ∀ (w3 : Int32) (w4 : Int32) (H : Heap) (locs : List Loc) (ls : Array Slot), Sum.inl (w3, w4) = o → q_Hh D cA z0 s Z M H locs → lv_has ls 6 [(0, .ref h), (1, .int v1), (2, .int v2), (3, .int w3), (4, .int w4)] → W p l e R s m args below meth c H locs cells slots Q (F0 m 5 ls []) := by
      intro w3 w4 H locs ls e hH hl
      subst e
      exact ih w3 w4 H locs ls r ho hH hl ky0
    have kx0 : ∀ (w3 : Int32) (H : Heap) (locs : List Loc) (ls : Array Slot), Sum.inr w3 = o → q_Hh D cA z0 s Z M H locs → lv_has ls 6 [(3, .int w3)] → W p l e R s m args below meth c H locs cells slots Q (F0 m 85 ls []) := by
      intro w3 H locs ls e hH hl
      subst e
      exact ky0 w3 H locs ls ho hH hl
    unfold fX7_fitsAll_L5 at hf
    refine lv_iload hx hb dX7_fitsAll_5 (lv_at hl 4 rfl) ?_
    refine lv_aload_n hx hb dX7_fitsAll_7 rfl (lv_at hl 0 rfl) ?_
    obtain ⟨hk_1, hf⟩ := q_gdE hf
    have hk_1 := q_keq hk_1
    refine q_getI E hH (ci := 7) rfl 6 (by decide) kF_X7_28 (fun _ _ _ => rfl) hk_1 dX7_fitsAll_8 ?_
    refine lv_icmp_ge (tgt := 85) hx hb dX7_fitsAll_11 (by decide) (fun cc_21 => ?_) (fun cc_21 => ?_)
    · replace hf := q_ifT cc_21 hf
      clear cc_21
      cases hf
      exact kx0 v3 _ _ _ rfl hH (lv_sub hl [3] rfl)
    · replace hf := q_ifF cc_21 hf
      clear cc_21
      refine lv_iload_n hx hb dX7_fitsAll_14 rfl (lv_at hl 3 rfl) ?_
      refine lv_if_eq (tgt := 85) hx hb dX7_fitsAll_15 (by decide) (fun cc_20 => ?_) (fun cc_20 => ?_)
      · replace hf := q_ifT cc_20 hf
        clear cc_20
        cases hf
        exact kx0 v3 _ _ _ rfl hH (lv_sub hl [3] rfl)
      · replace hf := q_ifF cc_20 hf
        clear cc_20
        refine lv_iload hx hb dX7_fitsAll_18 (lv_at hl 4 rfl) ?_
        refine lv_iload_n hx hb dX7_fitsAll_20 rfl (lv_at hl 2 rfl) ?_
        refine lv_icmp_eq (tgt := 79) hx hb dX7_fitsAll_21 (by decide) (fun cc_19 => ?_) (fun cc_19 => ?_)
        · replace hf := q_ifT cc_19 hf
          clear cc_19
          exact bX7_fitsAll_79 E hR hcc h v1 v2 v3 v4 Z M _ _ _ _ hf hH (lv_sub hl [0, 1, 2, 3, 4] rfl) kb kx0
        · replace hf := q_ifF cc_19 hf
          clear cc_19
          refine lv_aload_n hx hb dX7_fitsAll_24 rfl (lv_at hl 0 rfl) ?_
          refine q_getR E hH (ci := 7) rfl 7 (by decide) kF_X7_32 (fun _ _ _ => rfl) hk_1 dX7_fitsAll_25 ?_
          obtain ⟨a_4, he_5, hf⟩ := q_biE hf
          rw [he_5]
          refine lv_iconst (v := 5) hx hb dX7_fitsAll_28 (by decide) ?_
          refine lv_iload hx hb dX7_fitsAll_29 (lv_at hl 4 rfl) ?_
          refine lv_imul hx hb dX7_fitsAll_31 ?_
          obtain ⟨hz_6, hf⟩ := q_gdE hf
          refine q_iaload E hH hz_6 dX7_fitsAll_32 ?_
          refine lv_iconst (v := 2) hx hb dX7_fitsAll_33 (by decide) ?_
          refine lv_icmp_ne (tgt := 40) hx hb dX7_fitsAll_34 (by decide) (fun cc_18 => ?_) (fun cc_18 => ?_)
          · replace hf := q_ifF cc_18 hf
            clear cc_18
            refine lv_aload_n hx hb dX7_fitsAll_40 rfl (lv_at hl 0 rfl) ?_
            refine q_getR E hH (ci := 7) rfl 7 (by decide) kF_X7_32 (fun _ _ _ => rfl) hk_1 dX7_fitsAll_41 ?_
            obtain ⟨a_7, he_8, hf⟩ := q_biE hf
            rw [he_8]
            refine lv_iconst (v := 5) hx hb dX7_fitsAll_44 (by decide) ?_
            refine lv_iload hx hb dX7_fitsAll_45 (lv_at hl 4 rfl) ?_
            refine lv_imul hx hb dX7_fitsAll_47 ?_
            refine lv_iconst (v := 1) hx hb dX7_fitsAll_48 (by decide) ?_
            refine lv_iadd hx hb dX7_fitsAll_49 ?_
            obtain ⟨hz_9, hf⟩ := q_gdE hf
            refine q_iaload E hH hz_9 dX7_fitsAll_50 ?_
            refine lv_topi (fun v5_10 hn_11 => ?_)
            replace hf := q_nmE hn_11 hf
            clear hn_11
            refine lv_istore (lv' := [(5, .int v5_10), (0, .ref h), (1, .int v1), (2, .int v2), (3, .int v3), (4, .int v4)]) hx hb dX7_fitsAll_51 hl (by decide) rfl (fun ls hl => ?_)
            refine lv_aload_n hx hb dX7_fitsAll_53 rfl (lv_at hl 1 rfl) ?_
            refine lv_iload_n hx hb dX7_fitsAll_54 rfl (lv_at hl 2 rfl) ?_
            refine lv_iload hx hb dX7_fitsAll_55 (lv_at hl 5 rfl) ?_
            refine lv_aload_n hx hb dX7_fitsAll_57 rfl (lv_at hl 1 rfl) ?_
            refine lv_iconst (v := 0) hx hb dX7_fitsAll_58 (by decide) ?_
            refine lv_iload hx hb dX7_fitsAll_59 (lv_at hl 0 rfl) ?_
            refine lv_iconst (v := 0) hx hb dX7_fitsAll_61 (by decide) ?_
            obtain ⟨r_12, hw_13, hf⟩ := q_biE hf
            refine q_cV (As := [.int (0 : Int32), .int v5_10, .int (0 : Int32)]) (rest := [.int v4, .int v1, .ref h]) (st1 := [.int r_12, .int v4, .int v1, .ref h]) E hH (tX7_now l D cA z0 h (0 : Int32) v5_10 (0 : Int32) Z M r_12 hw_13) mw_X7_now mi_X7_now (ci := 7) rfl ms_X7_now kM_X7_133 hk_1 hcc rfl rfl rfl hl.1 rfl rfl (Nat.le_of_ble_eq_true rfl) ⟨Nat.le_trans (by decide) hR.1, Nat.le_trans (by decide) hR.2⟩ dX7_fitsAll_62 (fun H locs hH => ?_)
            refine lv_i2l hx hb dX7_fitsAll_65 rfl ?_
            refine lv_aload_n hx hb dX7_fitsAll_66 rfl (lv_at hl 1 rfl) ?_
            refine lv_iconst (v := 0) hx hb dX7_fitsAll_67 (by decide) ?_
            refine lv_iload hx hb dX7_fitsAll_68 (lv_at hl 0 rfl) ?_
            refine lv_iconst (v := 1) hx hb dX7_fitsAll_70 (by decide) ?_
            obtain ⟨r_14, hw_15, hf⟩ := q_biE hf
            refine q_cV (As := [.int (0 : Int32), .int v5_10, .int (1 : Int32)]) (rest := [.long r_12.toInt64, .int v4, .int v1, .ref h]) (st1 := [.int r_14, .long r_12.toInt64, .int v4, .int v1, .ref h]) E hH (tX7_now l D cA z0 h (0 : Int32) v5_10 (1 : Int32) Z M r_14 hw_15) mw_X7_now mi_X7_now (ci := 7) rfl ms_X7_now kM_X7_133 hk_1 hcc rfl rfl rfl hl.1 rfl rfl (Nat.le_of_ble_eq_true rfl) ⟨Nat.le_trans (by decide) hR.1, Nat.le_trans (by decide) hR.2⟩ dX7_fitsAll_71 (fun H locs hH => ?_)
            refine lv_i2l hx hb dX7_fitsAll_74 rfl ?_
            obtain ⟨r_16, hw_17, hf⟩ := q_biE hf
            refine q_cV (As := [.int v1, .int v4, .long r_12.toInt64, .long r_14.toInt64]) (rest := []) (st1 := [.int r_16]) E hH (tX7_fitsAt l D cA z0 h v1 v4 r_12.toInt64 r_14.toInt64 Z M r_16 hw_17) mw_X7_fitsAt mi_X7_fitsAt (ci := 7) rfl ms_X7_fitsAt kM_X7_171 hk_1 hcc rfl rfl rfl hl.1 rfl rfl (Nat.le_of_ble_eq_true rfl) ⟨Nat.le_trans (by decide) hR.1, Nat.le_trans (by decide) hR.2⟩ dX7_fitsAll_75 (fun H locs hH => ?_)
            refine lv_istore_n (lv' := [(3, .int r_16), (5, .int v5_10), (0, .ref h), (1, .int v1), (2, .int v2), (4, .int v4)]) hx hb dX7_fitsAll_78 rfl hl (by decide) rfl (fun ls hl => ?_)
            exact bX7_fitsAll_79 E hR hcc h v1 v2 r_16 v4 Z M _ _ _ _ hf hH (lv_sub hl [2, 3, 4, 0, 5] rfl) kb kx0
          · replace hf := q_ifT cc_18 hf
            clear cc_18
            refine lv_goto (tgt := 79) hx hb dX7_fitsAll_37 (by decide) ?_
            exact bX7_fitsAll_79 E hR hcc h v1 v2 v3 v4 Z M _ _ _ _ hf hH (lv_sub hl [0, 1, 2, 3, 4] rfl) kb kx0
def fX7_fitsAll_b85 (h : Nat) (v3 : Int32) (Z : q_Z) (M : q_C) : Option (Int32) :=
  q_gd (decide (v3 = 0) || decide (v3 = 1)) <|
  some v3
set_option maxHeartbeats 4000000 in
set_option maxRecDepth 100000 in
theorem bX7_fitsAll_85 {cells slots : Nat} (E : q_E p s m meth c cX7_fitsAll 6 RX7 (some .boolean) "fitsAll" D cA) (hR : 2 ≤ R.frames ∧ 63 ≤ R.locals) (hcc : cells ≤ R.cells ∧ slots ≤ R.slots) (h : Nat) (v3 : Int32) (Z : q_Z) (M : q_C) (H : Heap) (locs : List Loc) (ls : Array Slot) (r : Int32) (hf : fX7_fitsAll_b85 h v3 Z M = some r) (hH : q_Hh D cA z0 s Z M H locs) (hl : lv_has ls 6 [(3, .int v3)])  : W p l e R s m args below meth c H locs cells slots (MQ below (q_Q D cA z0 (some (.int r)) Z M) args s cells slots (fun q => z0 ≤ q)) (F0 m 85 ls []) := by
  have hx := E.1
  have hb := E.2.1
  have hown := E.2.2.2.1
  have hT := E.2.2.2.2.2.2.2.1
  unfold fX7_fitsAll_b85 at hf
  refine lv_iload_n hx hb dX7_fitsAll_85 rfl (lv_at hl 0 rfl) ?_
  obtain ⟨hz_25, hf⟩ := q_gdE hf
  cases hf
  exact q_zret E hH hz_25 dX7_fitsAll_86
def fX7_fitsAll (h : Nat) (v1 : Int32) (v2 : Int32) (Z : q_Z) (M : q_C) : Option (Int32) :=
  Option.bind (q_it (fun x => fX7_fitsAll_L5 h v1 v2 x.1 x.2 Z M) q_FU ((1 : Int32), (0 : Int32))) fun r_22 =>
  q_nm r_22 fun v3_24 =>
  fX7_fitsAll_b85 h v3_24 Z M
set_option maxHeartbeats 4000000 in
set_option maxRecDepth 100000 in
theorem bX7_fitsAll_0 {cells slots : Nat} (E : q_E p s m meth c cX7_fitsAll 6 RX7 (some .boolean) "fitsAll" D cA) (hR : 2 ≤ R.frames ∧ 63 ≤ R.locals) (hcc : cells ≤ R.cells ∧ slots ≤ R.slots) (h : Nat) (v1 : Int32) (v2 : Int32) (Z : q_Z) (M : q_C) (H : Heap) (locs : List Loc) (ls : Array Slot) (r : Int32) (hf : fX7_fitsAll h v1 v2 Z M = some r) (hH : q_Hh D cA z0 s Z M H locs) (hl : lv_has ls 6 [(0, .ref h), (1, .int v1), (2, .int v2)])  : W p l e R s m args below meth c H locs cells slots (MQ below (q_Q D cA z0 (some (.int r)) Z M) args s cells slots (fun q => z0 ≤ q)) (F0 m 0 ls []) := by
  have hx := E.1
  have hb := E.2.1
  have hown := E.2.2.2.1
  have hT := E.2.2.2.2.2.2.2.1
  unfold fX7_fitsAll at hf
  refine lv_iconst (v := 1) hx hb dX7_fitsAll_0 (by decide) ?_
  refine lv_istore_n (lv' := [(3, .int (1 : Int32)), (0, .ref h), (1, .int v1), (2, .int v2)]) hx hb dX7_fitsAll_1 rfl hl (by decide) rfl (fun ls hl => ?_)
  refine lv_iconst (v := 0) hx hb dX7_fitsAll_2 (by decide) ?_
  refine lv_istore (lv' := [(4, .int (0 : Int32)), (3, .int (1 : Int32)), (0, .ref h), (1, .int v1), (2, .int v2)]) hx hb dX7_fitsAll_3 hl (by decide) rfl (fun ls hl => ?_)
  obtain ⟨r_22, hr_23, hf⟩ := q_biE hf
  refine lX7_fitsAll_5 E hR hcc h v1 v2 Z M q_FU (1 : Int32) (0 : Int32) _ _ _ r_22 hr_23 hH (lv_sub hl [2, 3, 4, 1, 0] rfl) (fun v3_24 H locs ls he_26 hH hl => ?_)
  · subst he_26
    replace hf := q_nmE (x := v3_24) rfl hf
    exact bX7_fitsAll_85 E hR hcc h v3_24 Z M _ _ _ _ hf hH (lv_sub hl [0] rfl)
set_option maxRecDepth 100000 in
theorem tX7_fitsAll (l : Launch) (D : va_G) (cA : Nat → ClassId) (z0 : Nat) (h : Nat) (v1 : Int32) (v2 : Int32) (Z : q_Z) (M : q_C) (r : Int32) (hf : fX7_fitsAll h v1 v2 Z M = some r) : q_Ct l D cA z0 yX7_fitsAll cX7_fitsAll 6 (some .boolean) 2 63 [.ref h, .int v1, .int v2] Z M (some (.int r)) Z M 0 0 := by
  (refine q_start (plainFor_of_name (by decide)) (Nat.le_of_ble_eq_true rfl) (fun p e s m below meth c H ls E hH hl => ?_); exact bX7_fitsAll_0 E ⟨Nat.le_refl _, Nat.le_refl _⟩ ⟨Nat.le_refl _, Nat.le_refl _⟩ h _ _ Z M H [] ls r hf hH hl)
def fX7_keep_b121 (h : Nat) (v1 : Int32) (v2 : Int32) (Z : q_Z) (M : q_C) : Option ((Int32 × q_C) ⊕ q_C) :=
  q_nm (v2 + (1 : Int32)) fun v2_24 =>
  some (Sum.inl (v2_24, M))
set_option maxHeartbeats 4000000 in
set_option maxRecDepth 100000 in
theorem bX7_keep_121 {cells slots : Nat} {Q : State → Prop} (E : q_E p s m meth c cX7_keep 3 RX7 (some .int) "keep" D cA) (hR : 5 ≤ R.frames ∧ 142 ≤ R.locals) (hcc : cells ≤ R.cells ∧ slots ≤ R.slots) (h : Nat) (v1 : Int32) (v2 : Int32) (Z : q_Z) (M : q_C) (H : Heap) (locs : List Loc) (ls : Array Slot) (o : (Int32 × q_C) ⊕ q_C) (hf : fX7_keep_b121 h v1 v2 Z M = some o) (hH : q_Hh D cA z0 s Z M H locs) (hl : lv_has ls 3 [(0, .ref h), (1, .int v1), (2, .int v2)]) (kb : ∀ (w2 : Int32) (M1 : q_C) (H : Heap) (locs : List Loc) (ls : Array Slot), Sum.inl (w2, M1) = o → q_Hh D cA z0 s Z M1 H locs → lv_has ls 3 [(0, .ref h), (1, .int v1), (2, .int w2)] → W p l e R s m args below meth c H locs cells slots Q (F0 m 44 ls [])) (kx0 : ∀ (M1 : q_C) (H : Heap) (locs : List Loc) (ls : Array Slot), Sum.inr M1 = o → q_Hh D cA z0 s Z M1 H locs → lv_has ls 3 [(0, .ref h), (1, .int v1)] → W p l e R s m args below meth c H locs cells slots Q (F0 m 127 ls [])) : W p l e R s m args below meth c H locs cells slots Q (F0 m 121 ls []) := by
  have hx := E.1
  have hb := E.2.1
  have hown := E.2.2.2.1
  have hT := E.2.2.2.2.2.2.2.1
  unfold fX7_keep_b121 at hf
  obtain ⟨v2_24, hn_25⟩ : ∃ y : Int32, y = v2 + (1 : Int32) := ⟨_, rfl⟩
  replace hf := q_nmE hn_25 hf
  refine lv_iinc (v := v2_24) (lv' := [(2, .int v2_24), (0, .ref h), (1, .int v1)]) hx hb dX7_keep_121 hl (k := 2) rfl (by rw [hn_25]; rfl) (by decide) rfl (fun ls hl => ?_)
  clear hn_25
  refine lv_goto (tgt := 44) hx hb dX7_keep_124 (by decide) ?_
  cases hf
  exact kb v2_24 M _ _ _ rfl hH (lv_sub hl [1, 2, 0] rfl)
def fX7_keep_L44 (h : Nat) (v1 : Int32) (v2 : Int32) (Z : q_Z) (M : q_C) : Option ((Int32 × q_C) ⊕ q_C) :=
  q_gd (zK Z h == 17) <|
  if gI M h 10 ≤ v2 then
    some (Sum.inr M)
  else
    Option.bind (fX7_begins h v1 v2 Z M) fun M_10 =>
    Option.bind (fX7_follows h (gI M_10 h 13) (gI M_10 h 14) Z M_10) fun M_12 =>
    Option.bind (fX7_fitsAll h (gI M_12 h 13) (-1 : Int32) Z M_12) fun r_13 =>
    if r_13 = 0 then
      fX7_keep_b121 h v1 v2 Z M_12
    else
      Option.bind (gR M_12 h 15) fun a_15 =>
      q_gd (q_ok Z a_15 1 ((2 : Int32) * (gI M_12 h 13))) <|
      q_nm (sI M_12 a_15 ((2 : Int32) * (gI M_12 h 13)).toNatClampNeg v1) fun M_18 =>
      Option.bind (gR M_18 h 15) fun a_19 =>
      q_gd (q_ok Z a_19 1 (((2 : Int32) * (gI M_18 h 13)) + (1 : Int32))) <|
      q_nm (sI M_18 a_19 (((2 : Int32) * (gI M_18 h 13)) + (1 : Int32)).toNatClampNeg v2) fun M_22 =>
      q_nm (sI M_22 h 13 ((gI M_22 h 13) + (1 : Int32))) fun M_23 =>
      fX7_keep_b121 h v1 v2 Z M_23
set_option maxHeartbeats 4000000 in
set_option maxRecDepth 100000 in
theorem lX7_keep_44 {cells slots : Nat} {Q : State → Prop} (E : q_E p s m meth c cX7_keep 3 RX7 (some .int) "keep" D cA) (hR : 5 ≤ R.frames ∧ 142 ≤ R.locals) (hcc : cells ≤ R.cells ∧ slots ≤ R.slots)  (h : Nat) (v1 : Int32) (Z : q_Z) : ∀ (n : Nat) (v2 : Int32) (M : q_C) (H : Heap) (locs : List Loc) (ls : Array Slot) (r : q_C), q_it (fun x => fX7_keep_L44 h v1 x.1 Z x.2) n (v2, M) = some r → q_Hh D cA z0 s Z M H locs → lv_has ls 3 [(0, .ref h), (1, .int v1), (2, .int v2)] → (kx0 : ∀ (M1 : q_C) (H : Heap) (locs : List Loc) (ls : Array Slot), M1 = r → q_Hh D cA z0 s Z M1 H locs → lv_has ls 3 [(0, .ref h), (1, .int v1)] → W p l e R s m args below meth c H locs cells slots Q (F0 m 127 ls [])) → W p l e R s m args below meth c H locs cells slots Q (F0 m 44 ls []) := by
  have hx := E.1
  have hb := E.2.1
  have hown := E.2.2.2.1
  have hT := E.2.2.2.2.2.2.2.1
  intro n
  induction n with
  | zero =>
    intro v2 M H locs ls r hf
    cases hf
  | succ n ih =>
    intro v2 M H locs ls r hf hH hl ky0
    obtain ⟨n1, o, hn, hf, ho⟩ := q_itE hf
    cases hn
    have hf : fX7_keep_L44 h v1 v2 Z M = some o := hf
    have kb : ∀ (w2 : Int32) (M1 : q_C) (H : Heap) (locs : List Loc) (ls : Array Slot), Sum.inl (w2, M1) = o → q_Hh D cA z0 s Z M1 H locs → lv_has ls 3 [(0, .ref h), (1, .int v1), (2, .int w2)] → W p l e R s m args below meth c H locs cells slots Q (F0 m 44 ls []) := by
      intro w2 M1 H locs ls e hH hl
      subst e
      exact ih w2 M1 H locs ls r ho hH hl ky0
    have kx0 : ∀ (M1 : q_C) (H : Heap) (locs : List Loc) (ls : Array Slot), Sum.inr M1 = o → q_Hh D cA z0 s Z M1 H locs → lv_has ls 3 [(0, .ref h), (1, .int v1)] → W p l e R s m args below meth c H locs cells slots Q (F0 m 127 ls []) := by
      intro M1 H locs ls e hH hl
      subst e
      exact ky0 M1 H locs ls ho hH hl
    unfold fX7_keep_L44 at hf
    refine lv_iload_n hx hb dX7_keep_44 rfl (lv_at hl 2 rfl) ?_
    refine lv_aload_n hx hb dX7_keep_45 rfl (lv_at hl 0 rfl) ?_
    obtain ⟨hk_8, hf⟩ := q_gdE hf
    have hk_8 := q_keq hk_8
    refine q_getI E hH (ci := 7) rfl 10 (by decide) kF_X7_41 (fun _ _ _ => rfl) hk_8 dX7_keep_46 ?_
    refine lv_icmp_ge (tgt := 127) hx hb dX7_keep_49 (by decide) (fun cc_27 => ?_) (fun cc_27 => ?_)
    · replace hf := q_ifT cc_27 hf
      clear cc_27
      cases hf
      exact kx0 M _ _ _ rfl hH (lv_sub hl [0, 1] rfl)
    · replace hf := q_ifF cc_27 hf
      clear cc_27
      refine lv_aload_n hx hb dX7_keep_52 rfl (lv_at hl 0 rfl) ?_
      refine lv_iload_n hx hb dX7_keep_53 rfl (lv_at hl 1 rfl) ?_
      refine lv_iload_n hx hb dX7_keep_54 rfl (lv_at hl 2 rfl) ?_
      obtain ⟨M_10, hw_9, hf⟩ := q_biE hf
      refine q_cV (As := [.int v1, .int v2]) (rest := []) (st1 := []) E hH (tX7_begins l D cA z0 h v1 v2 Z M M_10 hw_9) mw_X7_begins mi_X7_begins (ci := 7) rfl ms_X7_begins kM_X7_175 hk_8 hcc rfl rfl rfl hl.1 rfl rfl (Nat.le_of_ble_eq_true rfl) ⟨Nat.le_trans (by decide) hR.1, Nat.le_trans (by decide) hR.2⟩ dX7_keep_55 (fun H locs hH => ?_)
      refine lv_aload_n hx hb dX7_keep_58 rfl (lv_at hl 0 rfl) ?_
      refine lv_aload_n hx hb dX7_keep_59 rfl (lv_at hl 0 rfl) ?_
      refine q_getI E hH (ci := 7) rfl 13 (by decide) kF_X7_50 (fun _ _ _ => rfl) hk_8 dX7_keep_60 ?_
      refine lv_aload_n hx hb dX7_keep_63 rfl (lv_at hl 0 rfl) ?_
      refine q_getI E hH (ci := 7) rfl 14 (by decide) kF_X7_53 (fun _ _ _ => rfl) hk_8 dX7_keep_64 ?_
      obtain ⟨M_12, hw_11, hf⟩ := q_biE hf
      refine q_cV (As := [.int (gI M_10 h 13), .int (gI M_10 h 14)]) (rest := []) (st1 := []) E hH (tX7_follows l D cA z0 h (gI M_10 h 13) (gI M_10 h 14) Z M_10 M_12 hw_11) mw_X7_follows mi_X7_follows (ci := 7) rfl ms_X7_follows kM_X7_178 hk_8 hcc rfl rfl rfl hl.1 rfl rfl (Nat.le_of_ble_eq_true rfl) ⟨Nat.le_trans (by decide) hR.1, Nat.le_trans (by decide) hR.2⟩ dX7_keep_67 (fun H locs hH => ?_)
      refine lv_aload_n hx hb dX7_keep_70 rfl (lv_at hl 0 rfl) ?_
      refine lv_aload_n hx hb dX7_keep_71 rfl (lv_at hl 0 rfl) ?_
      refine q_getI E hH (ci := 7) rfl 13 (by decide) kF_X7_50 (fun _ _ _ => rfl) hk_8 dX7_keep_72 ?_
      refine lv_iconst (v := -1) hx hb dX7_keep_75 (by decide) ?_
      obtain ⟨r_13, hw_14, hf⟩ := q_biE hf
      refine q_cV (As := [.int (gI M_12 h 13), .int (-1 : Int32)]) (rest := []) (st1 := [.int r_13]) E hH (tX7_fitsAll l D cA z0 h (gI M_12 h 13) (-1 : Int32) Z M_12 r_13 hw_14) mw_X7_fitsAll mi_X7_fitsAll (ci := 7) rfl ms_X7_fitsAll kM_X7_181 hk_8 hcc rfl rfl rfl hl.1 rfl rfl (Nat.le_of_ble_eq_true rfl) ⟨Nat.le_trans (by decide) hR.1, Nat.le_trans (by decide) hR.2⟩ dX7_keep_76 (fun H locs hH => ?_)
      refine lv_if_ne (tgt := 85) hx hb dX7_keep_79 (by decide) (fun cc_26 => ?_) (fun cc_26 => ?_)
      · replace hf := q_ifF cc_26 hf
        clear cc_26
        refine lv_aload_n hx hb dX7_keep_85 rfl (lv_at hl 0 rfl) ?_
        refine q_getR E hH (ci := 7) rfl 15 (by decide) kF_X7_56 (fun _ _ _ => rfl) hk_8 dX7_keep_86 ?_
        obtain ⟨a_15, he_16, hf⟩ := q_biE hf
        rw [he_16]
        refine lv_iconst (v := 2) hx hb dX7_keep_89 (by decide) ?_
        refine lv_aload_n hx hb dX7_keep_90 rfl (lv_at hl 0 rfl) ?_
        refine q_getI E hH (ci := 7) rfl 13 (by decide) kF_X7_50 (fun _ _ _ => rfl) hk_8 dX7_keep_91 ?_
        refine lv_imul hx hb dX7_keep_94 ?_
        refine lv_iload_n hx hb dX7_keep_95 rfl (lv_at hl 1 rfl) ?_
        obtain ⟨hz_17, hf⟩ := q_gdE hf
        refine q_iastore E hH hz_17 dX7_keep_96 hf (fun M_18 H locs hH hf => ?_)
        refine lv_aload_n hx hb dX7_keep_97 rfl (lv_at hl 0 rfl) ?_
        refine q_getR E hH (ci := 7) rfl 15 (by decide) kF_X7_56 (fun _ _ _ => rfl) hk_8 dX7_keep_98 ?_
        obtain ⟨a_19, he_20, hf⟩ := q_biE hf
        rw [he_20]
        refine lv_iconst (v := 2) hx hb dX7_keep_101 (by decide) ?_
        refine lv_aload_n hx hb dX7_keep_102 rfl (lv_at hl 0 rfl) ?_
        refine q_getI E hH (ci := 7) rfl 13 (by decide) kF_X7_50 (fun _ _ _ => rfl) hk_8 dX7_keep_103 ?_
        refine lv_imul hx hb dX7_keep_106 ?_
        refine lv_iconst (v := 1) hx hb dX7_keep_107 (by decide) ?_
        refine lv_iadd hx hb dX7_keep_108 ?_
        refine lv_iload_n hx hb dX7_keep_109 rfl (lv_at hl 2 rfl) ?_
        obtain ⟨hz_21, hf⟩ := q_gdE hf
        refine q_iastore E hH hz_21 dX7_keep_110 hf (fun M_22 H locs hH hf => ?_)
        refine lv_aload_n hx hb dX7_keep_111 rfl (lv_at hl 0 rfl) ?_
        refine lv_dup hx hb dX7_keep_112 rfl ?_
        refine q_getI E hH (ci := 7) rfl 13 (by decide) kF_X7_50 (fun _ _ _ => rfl) hk_8 dX7_keep_113 ?_
        refine lv_iconst (v := 1) hx hb dX7_keep_116 (by decide) ?_
        refine lv_iadd hx hb dX7_keep_117 ?_
        refine q_putI E hH (ci := 7) rfl 13 (by decide) kF_X7_50 rfl (fun _ _ _ => rfl) (x := (gI M_22 h 13) + (1 : Int32)) hk_8 rfl rfl dX7_keep_118 hf (fun M_23 H locs hH hf => ?_)
        exact bX7_keep_121 E hR hcc h v1 v2 Z M_23 _ _ _ _ hf hH (lv_sub hl [0, 1, 2] rfl) kb kx0
      · replace hf := q_ifT cc_26 hf
        clear cc_26
        refine lv_goto (tgt := 121) hx hb dX7_keep_82 (by decide) ?_
        exact bX7_keep_121 E hR hcc h v1 v2 Z M_12 _ _ _ _ hf hH (lv_sub hl [0, 1, 2] rfl) kb kx0
def fX7_keep_L34 (h : Nat) (v1 : Int32) (Z : q_Z) (M : q_C) : Option ((Int32 × q_C) ⊕ q_C) :=
  q_gd (zK Z h == 17) <|
  if gI M h 10 ≤ v1 then
    some (Sum.inr M)
  else
    Option.bind (q_it (fun x => fX7_keep_L44 h v1 x.1 Z x.2) q_FU ((0 : Int32), M)) fun r_28 =>
    q_nm r_28 fun M_30 =>
    q_nm (v1 + (1 : Int32)) fun v1_31 =>
    some (Sum.inl (v1_31, M_30))
set_option maxHeartbeats 4000000 in
set_option maxRecDepth 100000 in
theorem lX7_keep_34 {cells slots : Nat} {Q : State → Prop} (E : q_E p s m meth c cX7_keep 3 RX7 (some .int) "keep" D cA) (hR : 5 ≤ R.frames ∧ 142 ≤ R.locals) (hcc : cells ≤ R.cells ∧ slots ≤ R.slots)  (h : Nat) (Z : q_Z) : ∀ (n : Nat) (v1 : Int32) (M : q_C) (H : Heap) (locs : List Loc) (ls : Array Slot) (r : q_C), q_it (fun x => fX7_keep_L34 h x.1 Z x.2) n (v1, M) = some r → q_Hh D cA z0 s Z M H locs → lv_has ls 3 [(0, .ref h), (1, .int v1)] → (kx0 : ∀ (M1 : q_C) (H : Heap) (locs : List Loc) (ls : Array Slot), M1 = r → q_Hh D cA z0 s Z M1 H locs → lv_has ls 3 [(0, .ref h)] → W p l e R s m args below meth c H locs cells slots Q (F0 m 133 ls [])) → W p l e R s m args below meth c H locs cells slots Q (F0 m 34 ls []) := by
  have hx := E.1
  have hb := E.2.1
  have hown := E.2.2.2.1
  have hT := E.2.2.2.2.2.2.2.1
  intro n
  induction n with
  | zero =>
    intro v1 M H locs ls r hf
    cases hf
  | succ n ih =>
    intro v1 M H locs ls r hf hH hl ky0
    obtain ⟨n1, o, hn, hf, ho⟩ := q_itE hf
    cases hn
    have hf : fX7_keep_L34 h v1 Z M = some o := hf
    have kb : ∀ (w1 : Int32) (M1 : q_C) (H : Heap) (locs : List Loc) (ls : Array Slot), Sum.inl (w1, M1) = o → q_Hh D cA z0 s Z M1 H locs → lv_has ls 3 [(0, .ref h), (1, .int w1)] → W p l e R s m args below meth c H locs cells slots Q (F0 m 34 ls []) := by
      intro w1 M1 H locs ls e hH hl
      subst e
      exact ih w1 M1 H locs ls r ho hH hl ky0
    have kx0 : ∀ (M1 : q_C) (H : Heap) (locs : List Loc) (ls : Array Slot), Sum.inr M1 = o → q_Hh D cA z0 s Z M1 H locs → lv_has ls 3 [(0, .ref h)] → W p l e R s m args below meth c H locs cells slots Q (F0 m 133 ls []) := by
      intro M1 H locs ls e hH hl
      subst e
      exact ky0 M1 H locs ls ho hH hl
    unfold fX7_keep_L34 at hf
    refine lv_iload_n hx hb dX7_keep_34 rfl (lv_at hl 1 rfl) ?_
    refine lv_aload_n hx hb dX7_keep_35 rfl (lv_at hl 0 rfl) ?_
    obtain ⟨hk_7, hf⟩ := q_gdE hf
    have hk_7 := q_keq hk_7
    refine q_getI E hH (ci := 7) rfl 10 (by decide) kF_X7_41 (fun _ _ _ => rfl) hk_7 dX7_keep_36 ?_
    refine lv_icmp_ge (tgt := 133) hx hb dX7_keep_39 (by decide) (fun cc_34 => ?_) (fun cc_34 => ?_)
    · replace hf := q_ifT cc_34 hf
      clear cc_34
      cases hf
      exact kx0 M _ _ _ rfl hH (lv_sub hl [0] rfl)
    · replace hf := q_ifF cc_34 hf
      clear cc_34
      refine lv_iconst (v := 0) hx hb dX7_keep_42 (by decide) ?_
      refine lv_istore_n (lv' := [(2, .int (0 : Int32)), (0, .ref h), (1, .int v1)]) hx hb dX7_keep_43 rfl hl (by decide) rfl (fun ls hl => ?_)
      obtain ⟨r_28, hr_29, hf⟩ := q_biE hf
      refine lX7_keep_44 E hR hcc h v1 Z q_FU (0 : Int32) M _ _ _ r_28 hr_29 hH (lv_sub hl [1, 2, 0] rfl) (fun M_30 H locs ls he_33 hH hl => ?_)
      · subst he_33
        replace hf := q_nmE (x := M_30) rfl hf
        obtain ⟨v1_31, hn_32⟩ : ∃ y : Int32, y = v1 + (1 : Int32) := ⟨_, rfl⟩
        replace hf := q_nmE hn_32 hf
        refine lv_iinc (v := v1_31) (lv' := [(1, .int v1_31), (0, .ref h)]) hx hb dX7_keep_127 hl (k := 1) rfl (by rw [hn_32]; rfl) (by decide) rfl (fun ls hl => ?_)
        clear hn_32
        refine lv_goto (tgt := 34) hx hb dX7_keep_130 (by decide) ?_
        cases hf
        exact kb v1_31 M_30 _ _ _ rfl hH (lv_sub hl [1, 0] rfl)
def fX7_keep_L135 (h : Nat) (v1 : Int32) (Z : q_Z) (M : q_C) : Option ((Int32 × q_C) ⊕ q_C) :=
  if (2 : Int32) ≤ v1 then
    some (Sum.inr M)
  else
    q_gd (zK Z h == 17) <|
    Option.bind (gR M h 2) fun a_39 =>
    Option.bind (gR M h 0) fun a_41 =>
    q_gd (q_ok Z a_41 1 v1) <|
    q_gd (q_ok Z a_39 1 v1) <|
    q_nm (sI M a_39 v1.toNatClampNeg (gI M a_41 v1.toNatClampNeg)) fun M_45 =>
    Option.bind (gR M_45 h 5) fun a_46 =>
    Option.bind (gR M_45 h 4) fun a_48 =>
    q_gd (q_ok Z a_48 1 v1) <|
    q_gd (q_ok Z a_46 1 v1) <|
    q_nm (sI M_45 a_46 v1.toNatClampNeg (gI M_45 a_48 v1.toNatClampNeg)) fun M_52 =>
    q_nm (v1 + (1 : Int32)) fun v1_53 =>
    some (Sum.inl (v1_53, M_52))
set_option maxHeartbeats 4000000 in
set_option maxRecDepth 100000 in
theorem lX7_keep_135 {cells slots : Nat} {Q : State → Prop} (E : q_E p s m meth c cX7_keep 3 RX7 (some .int) "keep" D cA) (hR : 5 ≤ R.frames ∧ 142 ≤ R.locals) (hcc : cells ≤ R.cells ∧ slots ≤ R.slots)  (h : Nat) (Z : q_Z) : ∀ (n : Nat) (v1 : Int32) (M : q_C) (H : Heap) (locs : List Loc) (ls : Array Slot) (r : q_C), q_it (fun x => fX7_keep_L135 h x.1 Z x.2) n (v1, M) = some r → q_Hh D cA z0 s Z M H locs → lv_has ls 3 [(0, .ref h), (1, .int v1)] → (kx0 : ∀ (M1 : q_C) (H : Heap) (locs : List Loc) (ls : Array Slot), M1 = r → q_Hh D cA z0 s Z M1 H locs → lv_has ls 3 [(0, .ref h)] → W p l e R s m args below meth c H locs cells slots Q (F0 m 170 ls [])) → W p l e R s m args below meth c H locs cells slots Q (F0 m 135 ls []) := by
  have hx := E.1
  have hb := E.2.1
  have hown := E.2.2.2.1
  have hT := E.2.2.2.2.2.2.2.1
  intro n
  induction n with
  | zero =>
    intro v1 M H locs ls r hf
    cases hf
  | succ n ih =>
    intro v1 M H locs ls r hf hH hl ky0
    obtain ⟨n1, o, hn, hf, ho⟩ := q_itE hf
    cases hn
    have hf : fX7_keep_L135 h v1 Z M = some o := hf
    have kb : ∀ (w1 : Int32) (M1 : q_C) (H : Heap) (locs : List Loc) (ls : Array Slot), Sum.inl (w1, M1) = o → q_Hh D cA z0 s Z M1 H locs → lv_has ls 3 [(0, .ref h), (1, .int w1)] → W p l e R s m args below meth c H locs cells slots Q (F0 m 135 ls []) := by
      intro w1 M1 H locs ls e hH hl
      subst e
      exact ih w1 M1 H locs ls r ho hH hl ky0
    have kx0 : ∀ (M1 : q_C) (H : Heap) (locs : List Loc) (ls : Array Slot), Sum.inr M1 = o → q_Hh D cA z0 s Z M1 H locs → lv_has ls 3 [(0, .ref h)] → W p l e R s m args below meth c H locs cells slots Q (F0 m 170 ls []) := by
      intro M1 H locs ls e hH hl
      subst e
      exact ky0 M1 H locs ls ho hH hl
    unfold fX7_keep_L135 at hf
    refine lv_iload_n hx hb dX7_keep_135 rfl (lv_at hl 1 rfl) ?_
    refine lv_iconst (v := 2) hx hb dX7_keep_136 (by decide) ?_
    refine lv_icmp_ge (tgt := 170) hx hb dX7_keep_137 (by decide) (fun cc_55 => ?_) (fun cc_55 => ?_)
    · replace hf := q_ifT cc_55 hf
      clear cc_55
      cases hf
      exact kx0 M _ _ _ rfl hH (lv_sub hl [0] rfl)
    · replace hf := q_ifF cc_55 hf
      clear cc_55
      refine lv_aload_n hx hb dX7_keep_140 rfl (lv_at hl 0 rfl) ?_
      obtain ⟨hk_38, hf⟩ := q_gdE hf
      have hk_38 := q_keq hk_38
      refine q_getR E hH (ci := 7) rfl 2 (by decide) kF_X7_16 (fun _ _ _ => rfl) hk_38 dX7_keep_141 ?_
      obtain ⟨a_39, he_40, hf⟩ := q_biE hf
      rw [he_40]
      refine lv_iload_n hx hb dX7_keep_144 rfl (lv_at hl 1 rfl) ?_
      refine lv_aload_n hx hb dX7_keep_145 rfl (lv_at hl 0 rfl) ?_
      refine q_getR E hH (ci := 7) rfl 0 (by decide) kF_X7_7 (fun _ _ _ => rfl) hk_38 dX7_keep_146 ?_
      obtain ⟨a_41, he_42, hf⟩ := q_biE hf
      rw [he_42]
      refine lv_iload_n hx hb dX7_keep_149 rfl (lv_at hl 1 rfl) ?_
      obtain ⟨hz_43, hf⟩ := q_gdE hf
      refine q_iaload E hH hz_43 dX7_keep_150 ?_
      obtain ⟨hz_44, hf⟩ := q_gdE hf
      refine q_iastore E hH hz_44 dX7_keep_151 hf (fun M_45 H locs hH hf => ?_)
      refine lv_aload_n hx hb dX7_keep_152 rfl (lv_at hl 0 rfl) ?_
      refine q_getR E hH (ci := 7) rfl 5 (by decide) kF_X7_25 (fun _ _ _ => rfl) hk_38 dX7_keep_153 ?_
      obtain ⟨a_46, he_47, hf⟩ := q_biE hf
      rw [he_47]
      refine lv_iload_n hx hb dX7_keep_156 rfl (lv_at hl 1 rfl) ?_
      refine lv_aload_n hx hb dX7_keep_157 rfl (lv_at hl 0 rfl) ?_
      refine q_getR E hH (ci := 7) rfl 4 (by decide) kF_X7_22 (fun _ _ _ => rfl) hk_38 dX7_keep_158 ?_
      obtain ⟨a_48, he_49, hf⟩ := q_biE hf
      rw [he_49]
      refine lv_iload_n hx hb dX7_keep_161 rfl (lv_at hl 1 rfl) ?_
      obtain ⟨hz_50, hf⟩ := q_gdE hf
      refine q_iaload E hH hz_50 dX7_keep_162 ?_
      obtain ⟨hz_51, hf⟩ := q_gdE hf
      refine q_iastore E hH hz_51 dX7_keep_163 hf (fun M_52 H locs hH hf => ?_)
      obtain ⟨v1_53, hn_54⟩ : ∃ y : Int32, y = v1 + (1 : Int32) := ⟨_, rfl⟩
      replace hf := q_nmE hn_54 hf
      refine lv_iinc (v := v1_53) (lv' := [(1, .int v1_53), (0, .ref h)]) hx hb dX7_keep_164 hl (k := 1) rfl (by rw [hn_54]; rfl) (by decide) rfl (fun ls hl => ?_)
      clear hn_54
      refine lv_goto (tgt := 135) hx hb dX7_keep_167 (by decide) ?_
      cases hf
      exact kb v1_53 M_52 _ _ _ rfl hH (lv_sub hl [1, 0] rfl)
def fX7_keep_L172 (h : Nat) (v1 : Int32) (Z : q_Z) (M : q_C) : Option ((Int32 × q_C) ⊕ q_C) :=
  if (160 : Int32) ≤ v1 then
    some (Sum.inr M)
  else
    q_gd (zK Z h == 17) <|
    Option.bind (gR M h 3) fun a_60 =>
    Option.bind (gR M h 1) fun a_62 =>
    q_gd (q_ok Z a_62 1 v1) <|
    q_gd (q_ok Z a_60 1 v1) <|
    q_nm (sI M a_60 v1.toNatClampNeg (gI M a_62 v1.toNatClampNeg)) fun M_66 =>
    q_nm (v1 + (1 : Int32)) fun v1_67 =>
    some (Sum.inl (v1_67, M_66))
set_option maxHeartbeats 4000000 in
set_option maxRecDepth 100000 in
theorem lX7_keep_172 {cells slots : Nat} {Q : State → Prop} (E : q_E p s m meth c cX7_keep 3 RX7 (some .int) "keep" D cA) (hR : 5 ≤ R.frames ∧ 142 ≤ R.locals) (hcc : cells ≤ R.cells ∧ slots ≤ R.slots)  (h : Nat) (Z : q_Z) : ∀ (n : Nat) (v1 : Int32) (M : q_C) (H : Heap) (locs : List Loc) (ls : Array Slot) (r : q_C), q_it (fun x => fX7_keep_L172 h x.1 Z x.2) n (v1, M) = some r → q_Hh D cA z0 s Z M H locs → lv_has ls 3 [(0, .ref h), (1, .int v1)] → (kx0 : ∀ (M1 : q_C) (H : Heap) (locs : List Loc) (ls : Array Slot), M1 = r → q_Hh D cA z0 s Z M1 H locs → lv_has ls 3 [(0, .ref h)] → W p l e R s m args below meth c H locs cells slots Q (F0 m 197 ls [])) → W p l e R s m args below meth c H locs cells slots Q (F0 m 172 ls []) := by
  have hx := E.1
  have hb := E.2.1
  have hown := E.2.2.2.1
  have hT := E.2.2.2.2.2.2.2.1
  intro n
  induction n with
  | zero =>
    intro v1 M H locs ls r hf
    cases hf
  | succ n ih =>
    intro v1 M H locs ls r hf hH hl ky0
    obtain ⟨n1, o, hn, hf, ho⟩ := q_itE hf
    cases hn
    have hf : fX7_keep_L172 h v1 Z M = some o := hf
    have kb : ∀ (w1 : Int32) (M1 : q_C) (H : Heap) (locs : List Loc) (ls : Array Slot), Sum.inl (w1, M1) = o → q_Hh D cA z0 s Z M1 H locs → lv_has ls 3 [(0, .ref h), (1, .int w1)] → W p l e R s m args below meth c H locs cells slots Q (F0 m 172 ls []) := by
      intro w1 M1 H locs ls e hH hl
      subst e
      exact ih w1 M1 H locs ls r ho hH hl ky0
    have kx0 : ∀ (M1 : q_C) (H : Heap) (locs : List Loc) (ls : Array Slot), Sum.inr M1 = o → q_Hh D cA z0 s Z M1 H locs → lv_has ls 3 [(0, .ref h)] → W p l e R s m args below meth c H locs cells slots Q (F0 m 197 ls []) := by
      intro M1 H locs ls e hH hl
      subst e
      exact ky0 M1 H locs ls ho hH hl
    unfold fX7_keep_L172 at hf
    refine lv_iload_n hx hb dX7_keep_172 rfl (lv_at hl 1 rfl) ?_
    refine lv_sipush (v := 160) hx hb dX7_keep_173 (by decide) ?_
    refine lv_icmp_ge (tgt := 197) hx hb dX7_keep_176 (by decide) (fun cc_69 => ?_) (fun cc_69 => ?_)
    · replace hf := q_ifT cc_69 hf
      clear cc_69
      cases hf
      exact kx0 M _ _ _ rfl hH (lv_sub hl [0] rfl)
    · replace hf := q_ifF cc_69 hf
      clear cc_69
      refine lv_aload_n hx hb dX7_keep_179 rfl (lv_at hl 0 rfl) ?_
      obtain ⟨hk_59, hf⟩ := q_gdE hf
      have hk_59 := q_keq hk_59
      refine q_getR E hH (ci := 7) rfl 3 (by decide) kF_X7_19 (fun _ _ _ => rfl) hk_59 dX7_keep_180 ?_
      obtain ⟨a_60, he_61, hf⟩ := q_biE hf
      rw [he_61]
      refine lv_iload_n hx hb dX7_keep_183 rfl (lv_at hl 1 rfl) ?_
      refine lv_aload_n hx hb dX7_keep_184 rfl (lv_at hl 0 rfl) ?_
      refine q_getR E hH (ci := 7) rfl 1 (by decide) kF_X7_13 (fun _ _ _ => rfl) hk_59 dX7_keep_185 ?_
      obtain ⟨a_62, he_63, hf⟩ := q_biE hf
      rw [he_63]
      refine lv_iload_n hx hb dX7_keep_188 rfl (lv_at hl 1 rfl) ?_
      obtain ⟨hz_64, hf⟩ := q_gdE hf
      refine q_iaload E hH hz_64 dX7_keep_189 ?_
      obtain ⟨hz_65, hf⟩ := q_gdE hf
      refine q_iastore E hH hz_65 dX7_keep_190 hf (fun M_66 H locs hH hf => ?_)
      obtain ⟨v1_67, hn_68⟩ : ∃ y : Int32, y = v1 + (1 : Int32) := ⟨_, rfl⟩
      replace hf := q_nmE hn_68 hf
      refine lv_iinc (v := v1_67) (lv' := [(1, .int v1_67), (0, .ref h)]) hx hb dX7_keep_191 hl (k := 1) rfl (by rw [hn_68]; rfl) (by decide) rfl (fun ls hl => ?_)
      clear hn_68
      refine lv_goto (tgt := 172) hx hb dX7_keep_194 (by decide) ?_
      cases hf
      exact kb v1_67 M_66 _ _ _ rfl hH (lv_sub hl [1, 0] rfl)
def fX7_keep (h : Nat) (Z : q_Z) (M : q_C) : Option (Int32 × q_C) :=
  q_gd (zK Z h == 17) <|
  if gI M h 11 = (-1 : Int32) then
    some ((-1 : Int32), M)
  else
    q_nm (sI M h 13 (0 : Int32)) fun M_2 =>
    Option.bind (gR M_2 h 7) fun a_3 =>
    q_gd (q_ok Z a_3 1 (((5 : Int32) * (gI M_2 h 11)) + (1 : Int32))) <|
    q_nm (sI M_2 h 14 (gI M_2 a_3 (((5 : Int32) * (gI M_2 h 11)) + (1 : Int32)).toNatClampNeg)) fun M_6 =>
    Option.bind (q_it (fun x => fX7_keep_L34 h x.1 Z x.2) q_FU ((0 : Int32), M_6)) fun r_35 =>
    q_nm r_35 fun M_37 =>
    Option.bind (q_it (fun x => fX7_keep_L135 h x.1 Z x.2) q_FU ((0 : Int32), M_37)) fun r_56 =>
    q_nm r_56 fun M_58 =>
    Option.bind (q_it (fun x => fX7_keep_L172 h x.1 Z x.2) q_FU ((0 : Int32), M_58)) fun r_70 =>
    q_nm r_70 fun M_72 =>
    some ((gI M_72 h 13), M_72)
set_option maxHeartbeats 4000000 in
set_option maxRecDepth 100000 in
theorem bX7_keep_0 {cells slots : Nat} (E : q_E p s m meth c cX7_keep 3 RX7 (some .int) "keep" D cA) (hR : 5 ≤ R.frames ∧ 142 ≤ R.locals) (hcc : cells ≤ R.cells ∧ slots ≤ R.slots) (h : Nat) (Z : q_Z) (M : q_C) (H : Heap) (locs : List Loc) (ls : Array Slot) (r : Int32) (M' : q_C) (hf : fX7_keep h Z M = some (r, M')) (hH : q_Hh D cA z0 s Z M H locs) (hl : lv_has ls 3 [(0, .ref h)])  : W p l e R s m args below meth c H locs cells slots (MQ below (q_Q D cA z0 (some (.int r)) Z M') args s cells slots (fun q => z0 ≤ q)) (F0 m 0 ls []) := by
  have hx := E.1
  have hb := E.2.1
  have hown := E.2.2.2.1
  have hT := E.2.2.2.2.2.2.2.1
  unfold fX7_keep at hf
  refine lv_aload_n hx hb dX7_keep_0 rfl (lv_at hl 0 rfl) ?_
  obtain ⟨hk_1, hf⟩ := q_gdE hf
  have hk_1 := q_keq hk_1
  refine q_getI E hH (ci := 7) rfl 11 (by decide) kF_X7_44 (fun _ _ _ => rfl) hk_1 dX7_keep_1 ?_
  refine lv_iconst (v := -1) hx hb dX7_keep_4 (by decide) ?_
  refine lv_icmp_ne (tgt := 10) hx hb dX7_keep_5 (by decide) (fun cc_76 => ?_) (fun cc_76 => ?_)
  · replace hf := q_ifF cc_76 hf
    clear cc_76
    refine lv_aload_n hx hb dX7_keep_10 rfl (lv_at hl 0 rfl) ?_
    refine lv_iconst (v := 0) hx hb dX7_keep_11 (by decide) ?_
    refine q_putI E hH (ci := 7) rfl 13 (by decide) kF_X7_50 rfl (fun _ _ _ => rfl) (x := (0 : Int32)) hk_1 rfl rfl dX7_keep_12 hf (fun M_2 H locs hH hf => ?_)
    refine lv_aload_n hx hb dX7_keep_15 rfl (lv_at hl 0 rfl) ?_
    refine lv_aload_n hx hb dX7_keep_16 rfl (lv_at hl 0 rfl) ?_
    refine q_getR E hH (ci := 7) rfl 7 (by decide) kF_X7_32 (fun _ _ _ => rfl) hk_1 dX7_keep_17 ?_
    obtain ⟨a_3, he_4, hf⟩ := q_biE hf
    rw [he_4]
    refine lv_iconst (v := 5) hx hb dX7_keep_20 (by decide) ?_
    refine lv_aload_n hx hb dX7_keep_21 rfl (lv_at hl 0 rfl) ?_
    refine q_getI E hH (ci := 7) rfl 11 (by decide) kF_X7_44 (fun _ _ _ => rfl) hk_1 dX7_keep_22 ?_
    refine lv_imul hx hb dX7_keep_25 ?_
    refine lv_iconst (v := 1) hx hb dX7_keep_26 (by decide) ?_
    refine lv_iadd hx hb dX7_keep_27 ?_
    obtain ⟨hz_5, hf⟩ := q_gdE hf
    refine q_iaload E hH hz_5 dX7_keep_28 ?_
    refine q_putI E hH (ci := 7) rfl 14 (by decide) kF_X7_53 rfl (fun _ _ _ => rfl) (x := gI M_2 a_3 (((5 : Int32) * (gI M_2 h 11)) + (1 : Int32)).toNatClampNeg) hk_1 rfl rfl dX7_keep_29 hf (fun M_6 H locs hH hf => ?_)
    refine lv_iconst (v := 0) hx hb dX7_keep_32 (by decide) ?_
    refine lv_istore_n (lv' := [(1, .int (0 : Int32)), (0, .ref h)]) hx hb dX7_keep_33 rfl hl (by decide) rfl (fun ls hl => ?_)
    obtain ⟨r_35, hr_36, hf⟩ := q_biE hf
    refine lX7_keep_34 E hR hcc h Z q_FU (0 : Int32) M_6 _ _ _ r_35 hr_36 hH (lv_sub hl [1, 0] rfl) (fun M_37 H locs ls he_75 hH hl => ?_)
    · subst he_75
      replace hf := q_nmE (x := M_37) rfl hf
      refine lv_iconst (v := 0) hx hb dX7_keep_133 (by decide) ?_
      refine lv_istore_n (lv' := [(1, .int (0 : Int32)), (0, .ref h)]) hx hb dX7_keep_134 rfl hl (by decide) rfl (fun ls hl => ?_)
      obtain ⟨r_56, hr_57, hf⟩ := q_biE hf
      refine lX7_keep_135 E hR hcc h Z q_FU (0 : Int32) M_37 _ _ _ r_56 hr_57 hH (lv_sub hl [1, 0] rfl) (fun M_58 H locs ls he_74 hH hl => ?_)
      · subst he_74
        replace hf := q_nmE (x := M_58) rfl hf
        refine lv_iconst (v := 0) hx hb dX7_keep_170 (by decide) ?_
        refine lv_istore_n (lv' := [(1, .int (0 : Int32)), (0, .ref h)]) hx hb dX7_keep_171 rfl hl (by decide) rfl (fun ls hl => ?_)
        obtain ⟨r_70, hr_71, hf⟩ := q_biE hf
        refine lX7_keep_172 E hR hcc h Z q_FU (0 : Int32) M_58 _ _ _ r_70 hr_71 hH (lv_sub hl [1, 0] rfl) (fun M_72 H locs ls he_73 hH hl => ?_)
        · subst he_73
          replace hf := q_nmE (x := M_72) rfl hf
          refine lv_aload_n hx hb dX7_keep_197 rfl (lv_at hl 0 rfl) ?_
          refine q_getI E hH (ci := 7) rfl 13 (by decide) kF_X7_50 (fun _ _ _ => rfl) hk_1 dX7_keep_198 ?_
          cases hf
          exact q_iret E hH dX7_keep_201
  · replace hf := q_ifT cc_76 hf
    clear cc_76
    refine lv_iconst (v := -1) hx hb dX7_keep_8 (by decide) ?_
    cases hf
    exact q_iret E hH dX7_keep_9
set_option maxRecDepth 100000 in
theorem tX7_keep (l : Launch) (D : va_G) (cA : Nat → ClassId) (z0 : Nat) (h : Nat) (Z : q_Z) (M : q_C) (r : Int32) (M' : q_C) (hf : fX7_keep h Z M = some (r, M')) : q_Ct l D cA z0 yX7_keep cX7_keep 3 (some .int) 5 142 [.ref h] Z M (some (.int r)) Z M' 0 0 := by
  (refine q_start (plainFor_of_name (by decide)) (Nat.le_of_ble_eq_true rfl) (fun p e s m below meth c H ls E hH hl => ?_); exact bX7_keep_0 E ⟨Nat.le_refl _, Nat.le_refl _⟩ ⟨Nat.le_refl _, Nat.le_refl _⟩ h Z M H [] ls r M' hf hH hl)
def fX7_isWay_b17 (h : Nat) (s0 : Int32) (Z : q_Z) (M : q_C) : Option (Int32) :=
  q_gd (decide (s0 = 0) || decide (s0 = 1)) <|
  some s0
set_option maxHeartbeats 4000000 in
set_option maxRecDepth 100000 in
theorem bX7_isWay_17 {cells slots : Nat} (E : q_E p s m meth c cX7_isWay 2 RX7 (some .boolean) "isWay" D cA) (hR : 0 ≤ R.frames ∧ 0 ≤ R.locals) (hcc : cells ≤ R.cells ∧ slots ≤ R.slots) (h : Nat) (s0 : Int32) (Z : q_Z) (M : q_C) (H : Heap) (locs : List Loc) (ls : Array Slot) (r : Int32) (hf : fX7_isWay_b17 h s0 Z M = some r) (hH : q_Hh D cA z0 s Z M H locs) (hl : lv_has ls 2 [])  : W p l e R s m args below meth c H locs cells slots (MQ below (q_Q D cA z0 (some (.int r)) Z M) args s cells slots (fun q => z0 ≤ q)) (F0 m 17 ls [.int s0]) := by
  have hx := E.1
  have hb := E.2.1
  have hown := E.2.2.2.1
  have hT := E.2.2.2.2.2.2.2.1
  unfold fX7_isWay_b17 at hf
  obtain ⟨hz_1, hf⟩ := q_gdE hf
  cases hf
  exact q_zret E hH hz_1 dX7_isWay_17
def fX7_isWay_b16 (h : Nat) (Z : q_Z) (M : q_C) : Option (Int32) :=
  fX7_isWay_b17 h (0 : Int32) Z M
set_option maxHeartbeats 4000000 in
set_option maxRecDepth 100000 in
theorem bX7_isWay_16 {cells slots : Nat} (E : q_E p s m meth c cX7_isWay 2 RX7 (some .boolean) "isWay" D cA) (hR : 0 ≤ R.frames ∧ 0 ≤ R.locals) (hcc : cells ≤ R.cells ∧ slots ≤ R.slots) (h : Nat) (Z : q_Z) (M : q_C) (H : Heap) (locs : List Loc) (ls : Array Slot) (r : Int32) (hf : fX7_isWay_b16 h Z M = some r) (hH : q_Hh D cA z0 s Z M H locs) (hl : lv_has ls 2 [])  : W p l e R s m args below meth c H locs cells slots (MQ below (q_Q D cA z0 (some (.int r)) Z M) args s cells slots (fun q => z0 ≤ q)) (F0 m 16 ls []) := by
  have hx := E.1
  have hb := E.2.1
  have hown := E.2.2.2.1
  have hT := E.2.2.2.2.2.2.2.1
  unfold fX7_isWay_b16 at hf
  refine lv_iconst (v := 0) hx hb dX7_isWay_16 (by decide) ?_
  exact bX7_isWay_17 E hR hcc h (0 : Int32) Z M _ _ _ _ hf hH (lv_sub hl [] rfl)
def fX7_isWay (h : Nat) (v1 : Int32) (Z : q_Z) (M : q_C) : Option (Int32) :=
  if v1 < 0 then
    fX7_isWay_b16 h Z M
  else
    q_gd (zK Z h == 17) <|
    if gI M h 13 ≤ v1 then
      fX7_isWay_b16 h Z M
    else
      fX7_isWay_b17 h (1 : Int32) Z M
set_option maxHeartbeats 4000000 in
set_option maxRecDepth 100000 in
theorem bX7_isWay_0 {cells slots : Nat} (E : q_E p s m meth c cX7_isWay 2 RX7 (some .boolean) "isWay" D cA) (hR : 0 ≤ R.frames ∧ 0 ≤ R.locals) (hcc : cells ≤ R.cells ∧ slots ≤ R.slots) (h : Nat) (v1 : Int32) (Z : q_Z) (M : q_C) (H : Heap) (locs : List Loc) (ls : Array Slot) (r : Int32) (hf : fX7_isWay h v1 Z M = some r) (hH : q_Hh D cA z0 s Z M H locs) (hl : lv_has ls 2 [(0, .ref h), (1, .int v1)])  : W p l e R s m args below meth c H locs cells slots (MQ below (q_Q D cA z0 (some (.int r)) Z M) args s cells slots (fun q => z0 ≤ q)) (F0 m 0 ls []) := by
  have hx := E.1
  have hb := E.2.1
  have hown := E.2.2.2.1
  have hT := E.2.2.2.2.2.2.2.1
  unfold fX7_isWay at hf
  refine lv_iload_n hx hb dX7_isWay_0 rfl (lv_at hl 1 rfl) ?_
  refine lv_if_lt (tgt := 16) hx hb dX7_isWay_1 (by decide) (fun cc_4 => ?_) (fun cc_4 => ?_)
  · replace hf := q_ifT cc_4 hf
    clear cc_4
    exact bX7_isWay_16 E hR hcc h Z M _ _ _ _ hf hH (lv_sub hl [] rfl)
  · replace hf := q_ifF cc_4 hf
    clear cc_4
    refine lv_iload_n hx hb dX7_isWay_4 rfl (lv_at hl 1 rfl) ?_
    refine lv_aload_n hx hb dX7_isWay_5 rfl (lv_at hl 0 rfl) ?_
    obtain ⟨hk_2, hf⟩ := q_gdE hf
    have hk_2 := q_keq hk_2
    refine q_getI E hH (ci := 7) rfl 13 (by decide) kF_X7_50 (fun _ _ _ => rfl) hk_2 dX7_isWay_6 ?_
    refine lv_icmp_ge (tgt := 16) hx hb dX7_isWay_9 (by decide) (fun cc_3 => ?_) (fun cc_3 => ?_)
    · replace hf := q_ifT cc_3 hf
      clear cc_3
      exact bX7_isWay_16 E hR hcc h Z M _ _ _ _ hf hH (lv_sub hl [] rfl)
    · replace hf := q_ifF cc_3 hf
      clear cc_3
      refine lv_iconst (v := 1) hx hb dX7_isWay_12 (by decide) ?_
      refine lv_goto (tgt := 17) hx hb dX7_isWay_13 (by decide) ?_
      exact bX7_isWay_17 E hR hcc h (1 : Int32) Z M _ _ _ _ hf hH (lv_sub hl [] rfl)
set_option maxRecDepth 100000 in
theorem tX7_isWay (l : Launch) (D : va_G) (cA : Nat → ClassId) (z0 : Nat) (h : Nat) (v1 : Int32) (Z : q_Z) (M : q_C) (r : Int32) (hf : fX7_isWay h v1 Z M = some r) : q_Ct l D cA z0 yX7_isWay cX7_isWay 2 (some .boolean) 0 0 [.ref h, .int v1] Z M (some (.int r)) Z M 0 0 := by
  (refine q_start (plainFor_of_name (by decide)) (Nat.le_of_ble_eq_true rfl) (fun p e s m below meth c H ls E hH hl => ?_); exact bX7_isWay_0 E ⟨Nat.le_refl _, Nat.le_refl _⟩ ⟨Nat.le_refl _, Nat.le_refl _⟩ h _ Z M H [] ls r hf hH hl)
def fX7_way (h : Nat) (v1 : Int32) (v2 : Int32) (Z : q_Z) (M : q_C) : Option (Int32) :=
  q_gd (zK Z h == 17) <|
  Option.bind (fX7_isWay h v1 Z M) fun r_2 =>
  if r_2 = 0 then
    some (-1000000 : Int32)
  else
    q_nm ((((601 : Int32) * v1) + (gI M h 14)) + (300 : Int32)) fun v3_4 =>
    if v2 = 0 then
      Option.bind (gR M h 15) fun a_6 =>
      q_gd (q_ok Z a_6 1 ((2 : Int32) * v1)) <|
      some (gI M a_6 ((2 : Int32) * v1).toNatClampNeg)
    else
    if v2 = 1 then
      Option.bind (gR M h 15) fun a_9 =>
      q_gd (q_ok Z a_9 1 (((2 : Int32) * v1) + (1 : Int32))) <|
      some (gI M a_9 (((2 : Int32) * v1) + (1 : Int32)).toNatClampNeg)
    else
    if v2 = 2 then
      Option.bind (gR M h 17) fun a_12 =>
      q_gd (q_ok Z a_12 2 v3_4) <|
      some ((gJ M a_12 v3_4.toNatClampNeg).toInt32)
    else
    if v2 = 3 then
      Option.bind (gR M h 18) fun a_15 =>
      q_gd (q_ok Z a_15 2 v3_4) <|
      some ((gJ M a_15 v3_4.toNatClampNeg).toInt32)
    else
    if v2 = 4 then
      Option.bind (gR M h 19) fun a_18 =>
      q_gd (q_ok Z a_18 2 v3_4) <|
      some ((gJ M a_18 v3_4.toNatClampNeg).toInt32)
    else
    if v2 = 5 then
      Option.bind (gR M h 20) fun a_21 =>
      q_gd (q_ok Z a_21 2 v3_4) <|
      some ((gJ M a_21 v3_4.toNatClampNeg).toInt32)
    else
    if v2 = 6 then
      some (gI M h 14)
    else
    some (-1000000 : Int32)
set_option maxHeartbeats 4000000 in
set_option maxRecDepth 100000 in
theorem bX7_way_0 {cells slots : Nat} (E : q_E p s m meth c cX7_way 4 RX7 (some .int) "way" D cA) (hR : 1 ≤ R.frames ∧ 21 ≤ R.locals) (hcc : cells ≤ R.cells ∧ slots ≤ R.slots) (h : Nat) (v1 : Int32) (v2 : Int32) (Z : q_Z) (M : q_C) (H : Heap) (locs : List Loc) (ls : Array Slot) (r : Int32) (hf : fX7_way h v1 v2 Z M = some r) (hH : q_Hh D cA z0 s Z M H locs) (hl : lv_has ls 4 [(0, .ref h), (1, .int v1), (2, .int v2)])  : W p l e R s m args below meth c H locs cells slots (MQ below (q_Q D cA z0 (some (.int r)) Z M) args s cells slots (fun q => z0 ≤ q)) (F0 m 0 ls []) := by
  have hx := E.1
  have hb := E.2.1
  have hown := E.2.2.2.1
  have hT := E.2.2.2.2.2.2.2.1
  unfold fX7_way at hf
  refine lv_aload_n hx hb dX7_way_0 rfl (lv_at hl 0 rfl) ?_
  refine lv_iload_n hx hb dX7_way_1 rfl (lv_at hl 1 rfl) ?_
  obtain ⟨hk_1, hf⟩ := q_gdE hf
  have hk_1 := q_keq hk_1
  obtain ⟨r_2, hw_3, hf⟩ := q_biE hf
  refine q_cV (As := [.int v1]) (rest := []) (st1 := [.int r_2]) E hH (tX7_isWay l D cA z0 h v1 Z M r_2 hw_3) mw_X7_isWay mi_X7_isWay (ci := 7) rfl ms_X7_isWay kM_X7_184 hk_1 hcc rfl rfl rfl hl.1 rfl rfl (Nat.le_of_ble_eq_true rfl) ⟨Nat.le_trans (by decide) hR.1, Nat.le_trans (by decide) hR.2⟩ dX7_way_2 (fun H locs hH => ?_)
  refine lv_if_ne (tgt := 11) hx hb dX7_way_5 (by decide) (fun cc_31 => ?_) (fun cc_31 => ?_)
  · replace hf := q_ifF cc_31 hf
    clear cc_31
    refine lv_sipush (v := 601) hx hb dX7_way_11 (by decide) ?_
    refine lv_iload_n hx hb dX7_way_14 rfl (lv_at hl 1 rfl) ?_
    refine lv_imul hx hb dX7_way_15 ?_
    refine lv_aload_n hx hb dX7_way_16 rfl (lv_at hl 0 rfl) ?_
    refine q_getI E hH (ci := 7) rfl 14 (by decide) kF_X7_53 (fun _ _ _ => rfl) hk_1 dX7_way_17 ?_
    refine lv_iadd hx hb dX7_way_20 ?_
    refine lv_sipush (v := 300) hx hb dX7_way_21 (by decide) ?_
    refine lv_iadd hx hb dX7_way_24 ?_
    refine lv_topi (fun v3_4 hn_5 => ?_)
    replace hf := q_nmE hn_5 hf
    clear hn_5
    refine lv_istore_n (lv' := [(3, .int v3_4), (0, .ref h), (1, .int v1), (2, .int v2)]) hx hb dX7_way_25 rfl hl (by decide) rfl (fun ls hl => ?_)
    refine lv_iload_n hx hb dX7_way_26 rfl (lv_at hl 3 rfl) ?_
    by_cases cs_24 : v2 = 0
    · replace hf := q_ifT cs_24 hf
      refine q_tin (tgt := 68) 0 hx hb dX7_way_27 cs_24 (by decide) (by decide) rfl (by decide) ?_
      refine lv_aload_n hx hb dX7_way_68 rfl (lv_at hl 1 rfl) ?_
      refine q_getR E hH (ci := 7) rfl 15 (by decide) kF_X7_56 (fun _ _ _ => rfl) hk_1 dX7_way_69 ?_
      obtain ⟨a_6, he_7, hf⟩ := q_biE hf
      rw [he_7]
      refine lv_iconst (v := 2) hx hb dX7_way_72 (by decide) ?_
      refine lv_iload_n hx hb dX7_way_73 rfl (lv_at hl 2 rfl) ?_
      refine lv_imul hx hb dX7_way_74 ?_
      obtain ⟨hz_8, hf⟩ := q_gdE hf
      refine q_iaload E hH hz_8 dX7_way_75 ?_
      cases hf
      exact q_iret E hH dX7_way_76
    replace hf := q_ifF cs_24 hf
    by_cases cs_25 : v2 = 1
    · replace hf := q_ifT cs_25 hf
      refine q_tin (tgt := 77) 1 hx hb dX7_way_27 cs_25 (by decide) (by decide) rfl (by decide) ?_
      refine lv_aload_n hx hb dX7_way_77 rfl (lv_at hl 1 rfl) ?_
      refine q_getR E hH (ci := 7) rfl 15 (by decide) kF_X7_56 (fun _ _ _ => rfl) hk_1 dX7_way_78 ?_
      obtain ⟨a_9, he_10, hf⟩ := q_biE hf
      rw [he_10]
      refine lv_iconst (v := 2) hx hb dX7_way_81 (by decide) ?_
      refine lv_iload_n hx hb dX7_way_82 rfl (lv_at hl 2 rfl) ?_
      refine lv_imul hx hb dX7_way_83 ?_
      refine lv_iconst (v := 1) hx hb dX7_way_84 (by decide) ?_
      refine lv_iadd hx hb dX7_way_85 ?_
      obtain ⟨hz_11, hf⟩ := q_gdE hf
      refine q_iaload E hH hz_11 dX7_way_86 ?_
      cases hf
      exact q_iret E hH dX7_way_87
    replace hf := q_ifF cs_25 hf
    by_cases cs_26 : v2 = 2
    · replace hf := q_ifT cs_26 hf
      refine q_tin (tgt := 88) 2 hx hb dX7_way_27 cs_26 (by decide) (by decide) rfl (by decide) ?_
      refine lv_aload_n hx hb dX7_way_88 rfl (lv_at hl 1 rfl) ?_
      refine q_getR E hH (ci := 7) rfl 17 (by decide) kF_X7_63 (fun _ _ _ => rfl) hk_1 dX7_way_89 ?_
      obtain ⟨a_12, he_13, hf⟩ := q_biE hf
      rw [he_13]
      refine lv_iload_n hx hb dX7_way_92 rfl (lv_at hl 0 rfl) ?_
      obtain ⟨hz_14, hf⟩ := q_gdE hf
      refine q_laload E hH hz_14 dX7_way_93 ?_
      refine lv_l2i hx hb dX7_way_94 rfl ?_
      cases hf
      exact q_iret E hH dX7_way_95
    replace hf := q_ifF cs_26 hf
    by_cases cs_27 : v2 = 3
    · replace hf := q_ifT cs_27 hf
      refine q_tin (tgt := 96) 3 hx hb dX7_way_27 cs_27 (by decide) (by decide) rfl (by decide) ?_
      refine lv_aload_n hx hb dX7_way_96 rfl (lv_at hl 1 rfl) ?_
      refine q_getR E hH (ci := 7) rfl 18 (by decide) kF_X7_67 (fun _ _ _ => rfl) hk_1 dX7_way_97 ?_
      obtain ⟨a_15, he_16, hf⟩ := q_biE hf
      rw [he_16]
      refine lv_iload_n hx hb dX7_way_100 rfl (lv_at hl 0 rfl) ?_
      obtain ⟨hz_17, hf⟩ := q_gdE hf
      refine q_laload E hH hz_17 dX7_way_101 ?_
      refine lv_l2i hx hb dX7_way_102 rfl ?_
      cases hf
      exact q_iret E hH dX7_way_103
    replace hf := q_ifF cs_27 hf
    by_cases cs_28 : v2 = 4
    · replace hf := q_ifT cs_28 hf
      refine q_tin (tgt := 104) 4 hx hb dX7_way_27 cs_28 (by decide) (by decide) rfl (by decide) ?_
      refine lv_aload_n hx hb dX7_way_104 rfl (lv_at hl 1 rfl) ?_
      refine q_getR E hH (ci := 7) rfl 19 (by decide) kF_X7_70 (fun _ _ _ => rfl) hk_1 dX7_way_105 ?_
      obtain ⟨a_18, he_19, hf⟩ := q_biE hf
      rw [he_19]
      refine lv_iload_n hx hb dX7_way_108 rfl (lv_at hl 0 rfl) ?_
      obtain ⟨hz_20, hf⟩ := q_gdE hf
      refine q_laload E hH hz_20 dX7_way_109 ?_
      refine lv_l2i hx hb dX7_way_110 rfl ?_
      cases hf
      exact q_iret E hH dX7_way_111
    replace hf := q_ifF cs_28 hf
    by_cases cs_29 : v2 = 5
    · replace hf := q_ifT cs_29 hf
      refine q_tin (tgt := 112) 5 hx hb dX7_way_27 cs_29 (by decide) (by decide) rfl (by decide) ?_
      refine lv_aload_n hx hb dX7_way_112 rfl (lv_at hl 1 rfl) ?_
      refine q_getR E hH (ci := 7) rfl 20 (by decide) kF_X7_73 (fun _ _ _ => rfl) hk_1 dX7_way_113 ?_
      obtain ⟨a_21, he_22, hf⟩ := q_biE hf
      rw [he_22]
      refine lv_iload_n hx hb dX7_way_116 rfl (lv_at hl 0 rfl) ?_
      obtain ⟨hz_23, hf⟩ := q_gdE hf
      refine q_laload E hH hz_23 dX7_way_117 ?_
      refine lv_l2i hx hb dX7_way_118 rfl ?_
      cases hf
      exact q_iret E hH dX7_way_119
    replace hf := q_ifF cs_29 hf
    by_cases cs_30 : v2 = 6
    · replace hf := q_ifT cs_30 hf
      refine q_tin (tgt := 120) 6 hx hb dX7_way_27 cs_30 (by decide) (by decide) rfl (by decide) ?_
      refine lv_aload_n hx hb dX7_way_120 rfl (lv_at hl 1 rfl) ?_
      refine q_getI E hH (ci := 7) rfl 14 (by decide) kF_X7_53 (fun _ _ _ => rfl) hk_1 dX7_way_121 ?_
      cases hf
      exact q_iret E hH dX7_way_124
    replace hf := q_ifF cs_30 hf
    refine q_tout (tgt := 125) 7 hx hb dX7_way_27 rfl (fun k hk => match k, hk with | 0, _ => cs_24 | 1, _ => cs_25 | 2, _ => cs_26 | 3, _ => cs_27 | 4, _ => cs_28 | 5, _ => cs_29 | 6, _ => cs_30 | k + 7, hk => absurd hk (by omega)) (by decide) ?_
    refine lv_ldc hx hb hown (hT.1 _ _ kK_X7_187) dX7_way_125 ?_
    cases hf
    exact q_iret E hH dX7_way_127
  · replace hf := q_ifT cc_31 hf
    clear cc_31
    refine lv_ldc hx hb hown (hT.1 _ _ kK_X7_187) dX7_way_8 ?_
    cases hf
    exact q_iret E hH dX7_way_10
set_option maxRecDepth 100000 in
theorem tX7_way (l : Launch) (D : va_G) (cA : Nat → ClassId) (z0 : Nat) (h : Nat) (v1 : Int32) (v2 : Int32) (Z : q_Z) (M : q_C) (r : Int32) (hf : fX7_way h v1 v2 Z M = some r) : q_Ct l D cA z0 yX7_way cX7_way 4 (some .int) 1 21 [.ref h, .int v1, .int v2] Z M (some (.int r)) Z M 0 0 := by
  (refine q_start (plainFor_of_name (by decide)) (Nat.le_of_ble_eq_true rfl) (fun p e s m below meth c H ls E hH hl => ?_); exact bX7_way_0 E ⟨Nat.le_refl _, Nat.le_refl _⟩ ⟨Nat.le_refl _, Nat.le_refl _⟩ h _ _ Z M H [] ls r hf hH hl)
def fX7_at_b24 (h : Nat) (Z : q_Z) (M : q_C) : Option (Int32) :=
  some (-1000000 : Int32)
set_option maxHeartbeats 4000000 in
set_option maxRecDepth 100000 in
theorem bX7_at_24 {cells slots : Nat} (E : q_E p s m meth c cX7_at 5 RX7 (some .int) "at" D cA) (hR : 2 ≤ R.frames ∧ 42 ≤ R.locals) (hcc : cells ≤ R.cells ∧ slots ≤ R.slots) (h : Nat) (Z : q_Z) (M : q_C) (H : Heap) (locs : List Loc) (ls : Array Slot) (r : Int32) (hf : fX7_at_b24 h Z M = some r) (hH : q_Hh D cA z0 s Z M H locs) (hl : lv_has ls 5 [])  : W p l e R s m args below meth c H locs cells slots (MQ below (q_Q D cA z0 (some (.int r)) Z M) args s cells slots (fun q => z0 ≤ q)) (F0 m 24 ls []) := by
  have hx := E.1
  have hb := E.2.1
  have hown := E.2.2.2.1
  have hT := E.2.2.2.2.2.2.2.1
  unfold fX7_at_b24 at hf
  refine lv_ldc hx hb hown (hT.1 _ _ kK_X7_187) dX7_at_24 ?_
  cases hf
  exact q_iret E hH dX7_at_26
def fX7_at (h : Nat) (v1 : Int32) (v2 : Int32) (v3 : Int32) (Z : q_Z) (M : q_C) : Option (Int32) :=
  q_gd (zK Z h == 17) <|
  Option.bind (fX7_isWay h v1 Z M) fun r_2 =>
  if r_2 = 0 then
    fX7_at_b24 h Z M
  else
    Option.bind (fX7_isStep v2) fun r_4 =>
    if r_4 = 0 then
      fX7_at_b24 h Z M
    else
      Option.bind (fX7_isThere h v1 v2 Z M) fun r_6 =>
      if r_6 = 0 then
        fX7_at_b24 h Z M
      else
        q_nm ((((601 : Int32) * v1) + v2) + (300 : Int32)) fun v4_8 =>
        if v3 = 0 then
          Option.bind (gR M h 17) fun a_10 =>
          q_gd (q_ok Z a_10 2 v4_8) <|
          some ((gJ M a_10 v4_8.toNatClampNeg).toInt32)
        else
        if v3 = 1 then
          Option.bind (gR M h 18) fun a_13 =>
          q_gd (q_ok Z a_13 2 v4_8) <|
          some ((gJ M a_13 v4_8.toNatClampNeg).toInt32)
        else
        if v3 = 2 then
          Option.bind (gR M h 19) fun a_16 =>
          q_gd (q_ok Z a_16 2 v4_8) <|
          some ((gJ M a_16 v4_8.toNatClampNeg).toInt32)
        else
        if v3 = 3 then
          Option.bind (gR M h 20) fun a_19 =>
          q_gd (q_ok Z a_19 2 v4_8) <|
          some ((gJ M a_19 v4_8.toNatClampNeg).toInt32)
        else
        some (-1000000 : Int32)
set_option maxHeartbeats 4000000 in
set_option maxRecDepth 100000 in
theorem bX7_at_0 {cells slots : Nat} (E : q_E p s m meth c cX7_at 5 RX7 (some .int) "at" D cA) (hR : 2 ≤ R.frames ∧ 42 ≤ R.locals) (hcc : cells ≤ R.cells ∧ slots ≤ R.slots) (h : Nat) (v1 : Int32) (v2 : Int32) (v3 : Int32) (Z : q_Z) (M : q_C) (H : Heap) (locs : List Loc) (ls : Array Slot) (r : Int32) (hf : fX7_at h v1 v2 v3 Z M = some r) (hH : q_Hh D cA z0 s Z M H locs) (hl : lv_has ls 5 [(0, .ref h), (1, .int v1), (2, .int v2), (3, .int v3)])  : W p l e R s m args below meth c H locs cells slots (MQ below (q_Q D cA z0 (some (.int r)) Z M) args s cells slots (fun q => z0 ≤ q)) (F0 m 0 ls []) := by
  have hx := E.1
  have hb := E.2.1
  have hown := E.2.2.2.1
  have hT := E.2.2.2.2.2.2.2.1
  unfold fX7_at at hf
  refine lv_aload_n hx hb dX7_at_0 rfl (lv_at hl 0 rfl) ?_
  refine lv_iload_n hx hb dX7_at_1 rfl (lv_at hl 1 rfl) ?_
  obtain ⟨hk_1, hf⟩ := q_gdE hf
  have hk_1 := q_keq hk_1
  obtain ⟨r_2, hw_3, hf⟩ := q_biE hf
  refine q_cV (As := [.int v1]) (rest := []) (st1 := [.int r_2]) E hH (tX7_isWay l D cA z0 h v1 Z M r_2 hw_3) mw_X7_isWay mi_X7_isWay (ci := 7) rfl ms_X7_isWay kM_X7_184 hk_1 hcc rfl rfl rfl hl.1 rfl rfl (Nat.le_of_ble_eq_true rfl) ⟨Nat.le_trans (by decide) hR.1, Nat.le_trans (by decide) hR.2⟩ dX7_at_2 (fun H locs hH => ?_)
  refine lv_if_eq (tgt := 24) hx hb dX7_at_5 (by decide) (fun cc_28 => ?_) (fun cc_28 => ?_)
  · replace hf := q_ifT cc_28 hf
    clear cc_28
    exact bX7_at_24 E hR hcc h Z M _ _ _ _ hf hH (lv_sub hl [] rfl)
  · replace hf := q_ifF cc_28 hf
    clear cc_28
    refine lv_iload_n hx hb dX7_at_8 rfl (lv_at hl 2 rfl) ?_
    obtain ⟨r_4, hw_5, hf⟩ := q_biE hf
    refine q_cS (As := [.int v2]) (rest := []) (st1 := [.int r_4]) E hH (tX7_isStep l D cA z0 Z M v2 r_4 hw_5) mw_X7_isStep mi_X7_isStep kM_X7_110 hcc rfl rfl rfl hl.1 rfl rfl (Nat.le_of_ble_eq_true rfl) ⟨Nat.le_trans (by decide) hR.1, Nat.le_trans (by decide) hR.2⟩ dX7_at_9 (fun H locs hH => ?_)
    refine lv_if_eq (tgt := 24) hx hb dX7_at_12 (by decide) (fun cc_27 => ?_) (fun cc_27 => ?_)
    · replace hf := q_ifT cc_27 hf
      clear cc_27
      exact bX7_at_24 E hR hcc h Z M _ _ _ _ hf hH (lv_sub hl [] rfl)
    · replace hf := q_ifF cc_27 hf
      clear cc_27
      refine lv_aload_n hx hb dX7_at_15 rfl (lv_at hl 0 rfl) ?_
      refine lv_iload_n hx hb dX7_at_16 rfl (lv_at hl 1 rfl) ?_
      refine lv_iload_n hx hb dX7_at_17 rfl (lv_at hl 2 rfl) ?_
      obtain ⟨r_6, hw_7, hf⟩ := q_biE hf
      refine q_cV (As := [.int v1, .int v2]) (rest := []) (st1 := [.int r_6]) E hH (tX7_isThere l D cA z0 h v1 v2 Z M r_6 hw_7) mw_X7_isThere mi_X7_isThere (ci := 7) rfl ms_X7_isThere kM_X7_165 hk_1 hcc rfl rfl rfl hl.1 rfl rfl (Nat.le_of_ble_eq_true rfl) ⟨Nat.le_trans (by decide) hR.1, Nat.le_trans (by decide) hR.2⟩ dX7_at_18 (fun H locs hH => ?_)
      refine lv_if_ne (tgt := 27) hx hb dX7_at_21 (by decide) (fun cc_26 => ?_) (fun cc_26 => ?_)
      · replace hf := q_ifF cc_26 hf
        clear cc_26
        refine lv_sipush (v := 601) hx hb dX7_at_27 (by decide) ?_
        refine lv_iload_n hx hb dX7_at_30 rfl (lv_at hl 1 rfl) ?_
        refine lv_imul hx hb dX7_at_31 ?_
        refine lv_iload_n hx hb dX7_at_32 rfl (lv_at hl 2 rfl) ?_
        refine lv_iadd hx hb dX7_at_33 ?_
        refine lv_sipush (v := 300) hx hb dX7_at_34 (by decide) ?_
        refine lv_iadd hx hb dX7_at_37 ?_
        refine lv_topi (fun v4_8 hn_9 => ?_)
        replace hf := q_nmE hn_9 hf
        clear hn_9
        refine lv_istore (lv' := [(4, .int v4_8), (0, .ref h), (1, .int v1), (2, .int v2), (3, .int v3)]) hx hb dX7_at_38 hl (by decide) rfl (fun ls hl => ?_)
        refine lv_iload_n hx hb dX7_at_40 rfl (lv_at hl 4 rfl) ?_
        by_cases cs_22 : v3 = 0
        · replace hf := q_ifT cs_22 hf
          refine q_tin (tgt := 72) 0 hx hb dX7_at_41 cs_22 (by decide) (by decide) rfl (by decide) ?_
          refine lv_aload_n hx hb dX7_at_72 rfl (lv_at hl 1 rfl) ?_
          refine q_getR E hH (ci := 7) rfl 17 (by decide) kF_X7_63 (fun _ _ _ => rfl) hk_1 dX7_at_73 ?_
          obtain ⟨a_10, he_11, hf⟩ := q_biE hf
          rw [he_11]
          refine lv_iload hx hb dX7_at_76 (lv_at hl 0 rfl) ?_
          obtain ⟨hz_12, hf⟩ := q_gdE hf
          refine q_laload E hH hz_12 dX7_at_78 ?_
          refine lv_l2i hx hb dX7_at_79 rfl ?_
          cases hf
          exact q_iret E hH dX7_at_80
        replace hf := q_ifF cs_22 hf
        by_cases cs_23 : v3 = 1
        · replace hf := q_ifT cs_23 hf
          refine q_tin (tgt := 81) 1 hx hb dX7_at_41 cs_23 (by decide) (by decide) rfl (by decide) ?_
          refine lv_aload_n hx hb dX7_at_81 rfl (lv_at hl 1 rfl) ?_
          refine q_getR E hH (ci := 7) rfl 18 (by decide) kF_X7_67 (fun _ _ _ => rfl) hk_1 dX7_at_82 ?_
          obtain ⟨a_13, he_14, hf⟩ := q_biE hf
          rw [he_14]
          refine lv_iload hx hb dX7_at_85 (lv_at hl 0 rfl) ?_
          obtain ⟨hz_15, hf⟩ := q_gdE hf
          refine q_laload E hH hz_15 dX7_at_87 ?_
          refine lv_l2i hx hb dX7_at_88 rfl ?_
          cases hf
          exact q_iret E hH dX7_at_89
        replace hf := q_ifF cs_23 hf
        by_cases cs_24 : v3 = 2
        · replace hf := q_ifT cs_24 hf
          refine q_tin (tgt := 90) 2 hx hb dX7_at_41 cs_24 (by decide) (by decide) rfl (by decide) ?_
          refine lv_aload_n hx hb dX7_at_90 rfl (lv_at hl 1 rfl) ?_
          refine q_getR E hH (ci := 7) rfl 19 (by decide) kF_X7_70 (fun _ _ _ => rfl) hk_1 dX7_at_91 ?_
          obtain ⟨a_16, he_17, hf⟩ := q_biE hf
          rw [he_17]
          refine lv_iload hx hb dX7_at_94 (lv_at hl 0 rfl) ?_
          obtain ⟨hz_18, hf⟩ := q_gdE hf
          refine q_laload E hH hz_18 dX7_at_96 ?_
          refine lv_l2i hx hb dX7_at_97 rfl ?_
          cases hf
          exact q_iret E hH dX7_at_98
        replace hf := q_ifF cs_24 hf
        by_cases cs_25 : v3 = 3
        · replace hf := q_ifT cs_25 hf
          refine q_tin (tgt := 99) 3 hx hb dX7_at_41 cs_25 (by decide) (by decide) rfl (by decide) ?_
          refine lv_aload_n hx hb dX7_at_99 rfl (lv_at hl 1 rfl) ?_
          refine q_getR E hH (ci := 7) rfl 20 (by decide) kF_X7_73 (fun _ _ _ => rfl) hk_1 dX7_at_100 ?_
          obtain ⟨a_19, he_20, hf⟩ := q_biE hf
          rw [he_20]
          refine lv_iload hx hb dX7_at_103 (lv_at hl 0 rfl) ?_
          obtain ⟨hz_21, hf⟩ := q_gdE hf
          refine q_laload E hH hz_21 dX7_at_105 ?_
          refine lv_l2i hx hb dX7_at_106 rfl ?_
          cases hf
          exact q_iret E hH dX7_at_107
        replace hf := q_ifF cs_25 hf
        refine q_tout (tgt := 108) 4 hx hb dX7_at_41 rfl (fun k hk => match k, hk with | 0, _ => cs_22 | 1, _ => cs_23 | 2, _ => cs_24 | 3, _ => cs_25 | k + 4, hk => absurd hk (by omega)) (by decide) ?_
        refine lv_ldc hx hb hown (hT.1 _ _ kK_X7_187) dX7_at_108 ?_
        cases hf
        exact q_iret E hH dX7_at_110
      · replace hf := q_ifT cc_26 hf
        clear cc_26
        exact bX7_at_24 E hR hcc h Z M _ _ _ _ hf hH (lv_sub hl [] rfl)
set_option maxRecDepth 100000 in
theorem tX7_at (l : Launch) (D : va_G) (cA : Nat → ClassId) (z0 : Nat) (h : Nat) (v1 : Int32) (v2 : Int32) (v3 : Int32) (Z : q_Z) (M : q_C) (r : Int32) (hf : fX7_at h v1 v2 v3 Z M = some r) : q_Ct l D cA z0 yX7_at cX7_at 5 (some .int) 2 42 [.ref h, .int v1, .int v2, .int v3] Z M (some (.int r)) Z M 0 0 := by
  (refine q_start (plainFor_of_name (by decide)) (Nat.le_of_ble_eq_true rfl) (fun p e s m below meth c H ls E hH hl => ?_); exact bX7_at_0 E ⟨Nat.le_refl _, Nat.le_refl _⟩ ⟨Nat.le_refl _, Nat.le_refl _⟩ h _ _ _ Z M H [] ls r hf hH hl)
def fX7_then (h : Nat) (v1 : Int32) (v2 : Int32) (v3 : Int32) (Z : q_Z) (M : q_C) : Option (Int32) :=
  q_gd (zK Z h == 17) <|
  Option.bind (gR M h 3) fun a_2 =>
  Option.bind (gR M h 2) fun a_4 =>
  Option.bind (fX7_place (some a_2) (some a_4) v1 v2 v3 Z M) fun r_6 =>
  some r_6
set_option maxHeartbeats 4000000 in
set_option maxRecDepth 100000 in
theorem bX7_then_0 {cells slots : Nat} (E : q_E p s m meth c cX7_then 4 RX7 (some .int) "then" D cA) (hR : 1 ≤ R.frames ∧ 25 ≤ R.locals) (hcc : cells ≤ R.cells ∧ slots ≤ R.slots) (h : Nat) (v1 : Int32) (v2 : Int32) (v3 : Int32) (Z : q_Z) (M : q_C) (H : Heap) (locs : List Loc) (ls : Array Slot) (r : Int32) (hf : fX7_then h v1 v2 v3 Z M = some r) (hH : q_Hh D cA z0 s Z M H locs) (hl : lv_has ls 4 [(0, .ref h), (1, .int v1), (2, .int v2), (3, .int v3)])  : W p l e R s m args below meth c H locs cells slots (MQ below (q_Q D cA z0 (some (.int r)) Z M) args s cells slots (fun q => z0 ≤ q)) (F0 m 0 ls []) := by
  have hx := E.1
  have hb := E.2.1
  have hown := E.2.2.2.1
  have hT := E.2.2.2.2.2.2.2.1
  unfold fX7_then at hf
  refine lv_aload_n hx hb dX7_then_0 rfl (lv_at hl 0 rfl) ?_
  obtain ⟨hk_1, hf⟩ := q_gdE hf
  have hk_1 := q_keq hk_1
  refine q_getR E hH (ci := 7) rfl 3 (by decide) kF_X7_19 (fun _ _ _ => rfl) hk_1 dX7_then_1 ?_
  obtain ⟨a_2, he_3, hf⟩ := q_biE hf
  rw [he_3]
  refine lv_aload_n hx hb dX7_then_4 rfl (lv_at hl 0 rfl) ?_
  refine q_getR E hH (ci := 7) rfl 2 (by decide) kF_X7_16 (fun _ _ _ => rfl) hk_1 dX7_then_5 ?_
  obtain ⟨a_4, he_5, hf⟩ := q_biE hf
  rw [he_5]
  refine lv_iload_n hx hb dX7_then_8 rfl (lv_at hl 1 rfl) ?_
  refine lv_iload_n hx hb dX7_then_9 rfl (lv_at hl 2 rfl) ?_
  refine lv_iload_n hx hb dX7_then_10 rfl (lv_at hl 3 rfl) ?_
  obtain ⟨r_6, hw_7, hf⟩ := q_biE hf
  refine q_cS (As := [.ref a_2, .ref a_4, .int v1, .int v2, .int v3]) (rest := []) (st1 := [.int r_6]) E hH (tX7_place l D cA z0 (some a_2) (some a_4) v1 v2 v3 Z M r_6 hw_7) mw_X7_place mi_X7_place kM_X7_117 hcc rfl rfl rfl hl.1 rfl rfl (Nat.le_of_ble_eq_true rfl) ⟨Nat.le_trans (by decide) hR.1, Nat.le_trans (by decide) hR.2⟩ dX7_then_11 (fun H locs hH => ?_)
  cases hf
  exact q_iret E hH dX7_then_14
set_option maxRecDepth 100000 in
theorem tX7_then (l : Launch) (D : va_G) (cA : Nat → ClassId) (z0 : Nat) (h : Nat) (v1 : Int32) (v2 : Int32) (v3 : Int32) (Z : q_Z) (M : q_C) (r : Int32) (hf : fX7_then h v1 v2 v3 Z M = some r) : q_Ct l D cA z0 yX7_then cX7_then 4 (some .int) 1 25 [.ref h, .int v1, .int v2, .int v3] Z M (some (.int r)) Z M 0 0 := by
  (refine q_start (plainFor_of_name (by decide)) (Nat.le_of_ble_eq_true rfl) (fun p e s m below meth c H ls E hH hl => ?_); exact bX7_then_0 E ⟨Nat.le_refl _, Nat.le_refl _⟩ ⟨Nat.le_refl _, Nat.le_refl _⟩ h _ _ _ Z M H [] ls r hf hH hl)
def fX7_fitsThen (h : Nat) (v1 : Int32) (v2 : Int32) (Z : q_Z) (M : q_C) : Option (Int32) :=
  q_gd (zK Z h == 17) <|
  Option.bind (gR M h 7) fun a_2 =>
  q_gd (q_ok Z a_2 1 (((5 : Int32) * v2) + (1 : Int32))) <|
  Option.bind (fX7_then h (0 : Int32) (gI M a_2 (((5 : Int32) * v2) + (1 : Int32)).toNatClampNeg) (0 : Int32) Z M) fun r_5 =>
  Option.bind (gR M h 7) fun a_7 =>
  q_gd (q_ok Z a_7 1 (((5 : Int32) * v2) + (1 : Int32))) <|
  Option.bind (fX7_then h (0 : Int32) (gI M a_7 (((5 : Int32) * v2) + (1 : Int32)).toNatClampNeg) (1 : Int32) Z M) fun r_10 =>
  Option.bind (fX7_fitsAt h v1 v2 r_5.toInt64 r_10.toInt64 Z M) fun r_12 =>
  q_gd (decide (r_12 = 0) || decide (r_12 = 1)) <|
  some r_12
set_option maxHeartbeats 4000000 in
set_option maxRecDepth 100000 in
theorem bX7_fitsThen_0 {cells slots : Nat} (E : q_E p s m meth c cX7_fitsThen 3 RX7 (some .boolean) "fitsThen" D cA) (hR : 2 ≤ R.frames ∧ 63 ≤ R.locals) (hcc : cells ≤ R.cells ∧ slots ≤ R.slots) (h : Nat) (v1 : Int32) (v2 : Int32) (Z : q_Z) (M : q_C) (H : Heap) (locs : List Loc) (ls : Array Slot) (r : Int32) (hf : fX7_fitsThen h v1 v2 Z M = some r) (hH : q_Hh D cA z0 s Z M H locs) (hl : lv_has ls 3 [(0, .ref h), (1, .int v1), (2, .int v2)])  : W p l e R s m args below meth c H locs cells slots (MQ below (q_Q D cA z0 (some (.int r)) Z M) args s cells slots (fun q => z0 ≤ q)) (F0 m 0 ls []) := by
  have hx := E.1
  have hb := E.2.1
  have hown := E.2.2.2.1
  have hT := E.2.2.2.2.2.2.2.1
  unfold fX7_fitsThen at hf
  refine lv_aload_n hx hb dX7_fitsThen_0 rfl (lv_at hl 0 rfl) ?_
  refine lv_iload_n hx hb dX7_fitsThen_1 rfl (lv_at hl 1 rfl) ?_
  refine lv_iload_n hx hb dX7_fitsThen_2 rfl (lv_at hl 2 rfl) ?_
  refine lv_aload_n hx hb dX7_fitsThen_3 rfl (lv_at hl 0 rfl) ?_
  refine lv_iconst (v := 0) hx hb dX7_fitsThen_4 (by decide) ?_
  refine lv_aload_n hx hb dX7_fitsThen_5 rfl (lv_at hl 0 rfl) ?_
  obtain ⟨hk_1, hf⟩ := q_gdE hf
  have hk_1 := q_keq hk_1
  refine q_getR E hH (ci := 7) rfl 7 (by decide) kF_X7_32 (fun _ _ _ => rfl) hk_1 dX7_fitsThen_6 ?_
  obtain ⟨a_2, he_3, hf⟩ := q_biE hf
  rw [he_3]
  refine lv_iconst (v := 5) hx hb dX7_fitsThen_9 (by decide) ?_
  refine lv_iload_n hx hb dX7_fitsThen_10 rfl (lv_at hl 2 rfl) ?_
  refine lv_imul hx hb dX7_fitsThen_11 ?_
  refine lv_iconst (v := 1) hx hb dX7_fitsThen_12 (by decide) ?_
  refine lv_iadd hx hb dX7_fitsThen_13 ?_
  obtain ⟨hz_4, hf⟩ := q_gdE hf
  refine q_iaload E hH hz_4 dX7_fitsThen_14 ?_
  refine lv_iconst (v := 0) hx hb dX7_fitsThen_15 (by decide) ?_
  obtain ⟨r_5, hw_6, hf⟩ := q_biE hf
  refine q_cV (As := [.int (0 : Int32), .int (gI M a_2 (((5 : Int32) * v2) + (1 : Int32)).toNatClampNeg), .int (0 : Int32)]) (rest := [.int v2, .int v1, .ref h]) (st1 := [.int r_5, .int v2, .int v1, .ref h]) E hH (tX7_then l D cA z0 h (0 : Int32) (gI M a_2 (((5 : Int32) * v2) + (1 : Int32)).toNatClampNeg) (0 : Int32) Z M r_5 hw_6) mw_X7_then mi_X7_then (ci := 7) rfl ms_X7_then kM_X7_188 hk_1 hcc rfl rfl rfl hl.1 rfl rfl (Nat.le_of_ble_eq_true rfl) ⟨Nat.le_trans (by decide) hR.1, Nat.le_trans (by decide) hR.2⟩ dX7_fitsThen_16 (fun H locs hH => ?_)
  refine lv_i2l hx hb dX7_fitsThen_19 rfl ?_
  refine lv_aload_n hx hb dX7_fitsThen_20 rfl (lv_at hl 0 rfl) ?_
  refine lv_iconst (v := 0) hx hb dX7_fitsThen_21 (by decide) ?_
  refine lv_aload_n hx hb dX7_fitsThen_22 rfl (lv_at hl 0 rfl) ?_
  refine q_getR E hH (ci := 7) rfl 7 (by decide) kF_X7_32 (fun _ _ _ => rfl) hk_1 dX7_fitsThen_23 ?_
  obtain ⟨a_7, he_8, hf⟩ := q_biE hf
  rw [he_8]
  refine lv_iconst (v := 5) hx hb dX7_fitsThen_26 (by decide) ?_
  refine lv_iload_n hx hb dX7_fitsThen_27 rfl (lv_at hl 2 rfl) ?_
  refine lv_imul hx hb dX7_fitsThen_28 ?_
  refine lv_iconst (v := 1) hx hb dX7_fitsThen_29 (by decide) ?_
  refine lv_iadd hx hb dX7_fitsThen_30 ?_
  obtain ⟨hz_9, hf⟩ := q_gdE hf
  refine q_iaload E hH hz_9 dX7_fitsThen_31 ?_
  refine lv_iconst (v := 1) hx hb dX7_fitsThen_32 (by decide) ?_
  obtain ⟨r_10, hw_11, hf⟩ := q_biE hf
  refine q_cV (As := [.int (0 : Int32), .int (gI M a_7 (((5 : Int32) * v2) + (1 : Int32)).toNatClampNeg), .int (1 : Int32)]) (rest := [.long r_5.toInt64, .int v2, .int v1, .ref h]) (st1 := [.int r_10, .long r_5.toInt64, .int v2, .int v1, .ref h]) E hH (tX7_then l D cA z0 h (0 : Int32) (gI M a_7 (((5 : Int32) * v2) + (1 : Int32)).toNatClampNeg) (1 : Int32) Z M r_10 hw_11) mw_X7_then mi_X7_then (ci := 7) rfl ms_X7_then kM_X7_188 hk_1 hcc rfl rfl rfl hl.1 rfl rfl (Nat.le_of_ble_eq_true rfl) ⟨Nat.le_trans (by decide) hR.1, Nat.le_trans (by decide) hR.2⟩ dX7_fitsThen_33 (fun H locs hH => ?_)
  refine lv_i2l hx hb dX7_fitsThen_36 rfl ?_
  obtain ⟨r_12, hw_13, hf⟩ := q_biE hf
  refine q_cV (As := [.int v1, .int v2, .long r_5.toInt64, .long r_10.toInt64]) (rest := []) (st1 := [.int r_12]) E hH (tX7_fitsAt l D cA z0 h v1 v2 r_5.toInt64 r_10.toInt64 Z M r_12 hw_13) mw_X7_fitsAt mi_X7_fitsAt (ci := 7) rfl ms_X7_fitsAt kM_X7_171 hk_1 hcc rfl rfl rfl hl.1 rfl rfl (Nat.le_of_ble_eq_true rfl) ⟨Nat.le_trans (by decide) hR.1, Nat.le_trans (by decide) hR.2⟩ dX7_fitsThen_37 (fun H locs hH => ?_)
  obtain ⟨hz_14, hf⟩ := q_gdE hf
  cases hf
  exact q_zret E hH hz_14 dX7_fitsThen_40
set_option maxRecDepth 100000 in
theorem tX7_fitsThen (l : Launch) (D : va_G) (cA : Nat → ClassId) (z0 : Nat) (h : Nat) (v1 : Int32) (v2 : Int32) (Z : q_Z) (M : q_C) (r : Int32) (hf : fX7_fitsThen h v1 v2 Z M = some r) : q_Ct l D cA z0 yX7_fitsThen cX7_fitsThen 3 (some .boolean) 2 63 [.ref h, .int v1, .int v2] Z M (some (.int r)) Z M 0 0 := by
  (refine q_start (plainFor_of_name (by decide)) (Nat.le_of_ble_eq_true rfl) (fun p e s m below meth c H ls E hH hl => ?_); exact bX7_fitsThen_0 E ⟨Nat.le_refl _, Nat.le_refl _⟩ ⟨Nat.le_refl _, Nat.le_refl _⟩ h _ _ Z M H [] ls r hf hH hl)
def fX7_fits_b34 (h : Nat) (s0 : Int32) (Z : q_Z) (M : q_C) : Option (Int32) :=
  some s0
set_option maxHeartbeats 4000000 in
set_option maxRecDepth 100000 in
theorem bX7_fits_34 {cells slots : Nat} (E : q_E p s m meth c cX7_fits 3 RX7 (some .int) "fits" D cA) (hR : 3 ≤ R.frames ∧ 85 ≤ R.locals) (hcc : cells ≤ R.cells ∧ slots ≤ R.slots) (h : Nat) (s0 : Int32) (Z : q_Z) (M : q_C) (H : Heap) (locs : List Loc) (ls : Array Slot) (r : Int32) (hf : fX7_fits_b34 h s0 Z M = some r) (hH : q_Hh D cA z0 s Z M H locs) (hl : lv_has ls 3 [])  : W p l e R s m args below meth c H locs cells slots (MQ below (q_Q D cA z0 (some (.int r)) Z M) args s cells slots (fun q => z0 ≤ q)) (F0 m 34 ls [.int s0]) := by
  have hx := E.1
  have hb := E.2.1
  have hown := E.2.2.2.1
  have hT := E.2.2.2.2.2.2.2.1
  unfold fX7_fits_b34 at hf
  cases hf
  exact q_iret E hH dX7_fits_34
def fX7_fits_b16 (h : Nat) (Z : q_Z) (M : q_C) : Option (Int32) :=
  fX7_fits_b34 h (-1 : Int32) Z M
set_option maxHeartbeats 4000000 in
set_option maxRecDepth 100000 in
theorem bX7_fits_16 {cells slots : Nat} (E : q_E p s m meth c cX7_fits 3 RX7 (some .int) "fits" D cA) (hR : 3 ≤ R.frames ∧ 85 ≤ R.locals) (hcc : cells ≤ R.cells ∧ slots ≤ R.slots) (h : Nat) (Z : q_Z) (M : q_C) (H : Heap) (locs : List Loc) (ls : Array Slot) (r : Int32) (hf : fX7_fits_b16 h Z M = some r) (hH : q_Hh D cA z0 s Z M H locs) (hl : lv_has ls 3 [])  : W p l e R s m args below meth c H locs cells slots (MQ below (q_Q D cA z0 (some (.int r)) Z M) args s cells slots (fun q => z0 ≤ q)) (F0 m 16 ls []) := by
  have hx := E.1
  have hb := E.2.1
  have hown := E.2.2.2.1
  have hT := E.2.2.2.2.2.2.2.1
  unfold fX7_fits_b16 at hf
  refine lv_iconst (v := -1) hx hb dX7_fits_16 (by decide) ?_
  refine lv_goto (tgt := 34) hx hb dX7_fits_17 (by decide) ?_
  exact bX7_fits_34 E hR hcc h (-1 : Int32) Z M _ _ _ _ hf hH (lv_sub hl [] rfl)
def fX7_fits (h : Nat) (v1 : Int32) (v2 : Int32) (Z : q_Z) (M : q_C) : Option (Int32) :=
  q_gd (zK Z h == 17) <|
  Option.bind (fX7_isWay h v1 Z M) fun r_2 =>
  if r_2 = 0 then
    fX7_fits_b16 h Z M
  else
    Option.bind (fX7_isSight h v2 Z M) fun r_4 =>
    if r_4 = 0 then
      fX7_fits_b16 h Z M
    else
      Option.bind (fX7_fitsThen h v1 v2 Z M) fun r_6 =>
      if r_6 = 0 then
        fX7_fits_b34 h (0 : Int32) Z M
      else
        fX7_fits_b34 h (1 : Int32) Z M
set_option maxHeartbeats 4000000 in
set_option maxRecDepth 100000 in
theorem bX7_fits_0 {cells slots : Nat} (E : q_E p s m meth c cX7_fits 3 RX7 (some .int) "fits" D cA) (hR : 3 ≤ R.frames ∧ 85 ≤ R.locals) (hcc : cells ≤ R.cells ∧ slots ≤ R.slots) (h : Nat) (v1 : Int32) (v2 : Int32) (Z : q_Z) (M : q_C) (H : Heap) (locs : List Loc) (ls : Array Slot) (r : Int32) (hf : fX7_fits h v1 v2 Z M = some r) (hH : q_Hh D cA z0 s Z M H locs) (hl : lv_has ls 3 [(0, .ref h), (1, .int v1), (2, .int v2)])  : W p l e R s m args below meth c H locs cells slots (MQ below (q_Q D cA z0 (some (.int r)) Z M) args s cells slots (fun q => z0 ≤ q)) (F0 m 0 ls []) := by
  have hx := E.1
  have hb := E.2.1
  have hown := E.2.2.2.1
  have hT := E.2.2.2.2.2.2.2.1
  unfold fX7_fits at hf
  refine lv_aload_n hx hb dX7_fits_0 rfl (lv_at hl 0 rfl) ?_
  refine lv_iload_n hx hb dX7_fits_1 rfl (lv_at hl 1 rfl) ?_
  obtain ⟨hk_1, hf⟩ := q_gdE hf
  have hk_1 := q_keq hk_1
  obtain ⟨r_2, hw_3, hf⟩ := q_biE hf
  refine q_cV (As := [.int v1]) (rest := []) (st1 := [.int r_2]) E hH (tX7_isWay l D cA z0 h v1 Z M r_2 hw_3) mw_X7_isWay mi_X7_isWay (ci := 7) rfl ms_X7_isWay kM_X7_184 hk_1 hcc rfl rfl rfl hl.1 rfl rfl (Nat.le_of_ble_eq_true rfl) ⟨Nat.le_trans (by decide) hR.1, Nat.le_trans (by decide) hR.2⟩ dX7_fits_2 (fun H locs hH => ?_)
  refine lv_if_eq (tgt := 16) hx hb dX7_fits_5 (by decide) (fun cc_10 => ?_) (fun cc_10 => ?_)
  · replace hf := q_ifT cc_10 hf
    clear cc_10
    exact bX7_fits_16 E hR hcc h Z M _ _ _ _ hf hH (lv_sub hl [] rfl)
  · replace hf := q_ifF cc_10 hf
    clear cc_10
    refine lv_aload_n hx hb dX7_fits_8 rfl (lv_at hl 0 rfl) ?_
    refine lv_iload_n hx hb dX7_fits_9 rfl (lv_at hl 2 rfl) ?_
    obtain ⟨r_4, hw_5, hf⟩ := q_biE hf
    refine q_cV (As := [.int v2]) (rest := []) (st1 := [.int r_4]) E hH (tX7_isSight l D cA z0 h v2 Z M r_4 hw_5) mw_X7_isSight mi_X7_isSight (ci := 7) rfl ms_X7_isSight kM_X7_114 hk_1 hcc rfl rfl rfl hl.1 rfl rfl (Nat.le_of_ble_eq_true rfl) ⟨Nat.le_trans (by decide) hR.1, Nat.le_trans (by decide) hR.2⟩ dX7_fits_10 (fun H locs hH => ?_)
    refine lv_if_ne (tgt := 20) hx hb dX7_fits_13 (by decide) (fun cc_9 => ?_) (fun cc_9 => ?_)
    · replace hf := q_ifF cc_9 hf
      clear cc_9
      refine lv_aload_n hx hb dX7_fits_20 rfl (lv_at hl 0 rfl) ?_
      refine lv_iload_n hx hb dX7_fits_21 rfl (lv_at hl 1 rfl) ?_
      refine lv_iload_n hx hb dX7_fits_22 rfl (lv_at hl 2 rfl) ?_
      obtain ⟨r_6, hw_7, hf⟩ := q_biE hf
      refine q_cV (As := [.int v1, .int v2]) (rest := []) (st1 := [.int r_6]) E hH (tX7_fitsThen l D cA z0 h v1 v2 Z M r_6 hw_7) mw_X7_fitsThen mi_X7_fitsThen (ci := 7) rfl ms_X7_fitsThen kM_X7_191 hk_1 hcc rfl rfl rfl hl.1 rfl rfl (Nat.le_of_ble_eq_true rfl) ⟨Nat.le_trans (by decide) hR.1, Nat.le_trans (by decide) hR.2⟩ dX7_fits_23 (fun H locs hH => ?_)
      refine lv_if_eq (tgt := 33) hx hb dX7_fits_26 (by decide) (fun cc_8 => ?_) (fun cc_8 => ?_)
      · replace hf := q_ifT cc_8 hf
        clear cc_8
        refine lv_iconst (v := 0) hx hb dX7_fits_33 (by decide) ?_
        exact bX7_fits_34 E hR hcc h (0 : Int32) Z M _ _ _ _ hf hH (lv_sub hl [] rfl)
      · replace hf := q_ifF cc_8 hf
        clear cc_8
        refine lv_iconst (v := 1) hx hb dX7_fits_29 (by decide) ?_
        refine lv_goto (tgt := 34) hx hb dX7_fits_30 (by decide) ?_
        exact bX7_fits_34 E hR hcc h (1 : Int32) Z M _ _ _ _ hf hH (lv_sub hl [] rfl)
    · replace hf := q_ifT cc_9 hf
      clear cc_9
      exact bX7_fits_16 E hR hcc h Z M _ _ _ _ hf hH (lv_sub hl [] rfl)
set_option maxRecDepth 100000 in
theorem tX7_fits (l : Launch) (D : va_G) (cA : Nat → ClassId) (z0 : Nat) (h : Nat) (v1 : Int32) (v2 : Int32) (Z : q_Z) (M : q_C) (r : Int32) (hf : fX7_fits h v1 v2 Z M = some r) : q_Ct l D cA z0 yX7_fits cX7_fits 3 (some .int) 3 85 [.ref h, .int v1, .int v2] Z M (some (.int r)) Z M 0 0 := by
  (refine q_start (plainFor_of_name (by decide)) (Nat.le_of_ble_eq_true rfl) (fun p e s m below meth c H ls E hH hl => ?_); exact bX7_fits_0 E ⟨Nat.le_refl _, Nat.le_refl _⟩ ⟨Nat.le_refl _, Nat.le_refl _⟩ h _ _ Z M H [] ls r hf hH hl)
def fX7_fitting_b37 (h : Nat) (v1 : Int32) (v3 : Int32) (s0 : Int32) (s1 : Int32) (Z : q_Z) (M : q_C) : Option ((Int32 × Int32) ⊕ Int32) :=
  q_nm (s1 + s0) fun v2_7 =>
  q_nm (v3 + (1 : Int32)) fun v3_9 =>
  some (Sum.inl (v2_7, v3_9))
set_option maxHeartbeats 4000000 in
set_option maxRecDepth 100000 in
theorem bX7_fitting_37 {cells slots : Nat} {Q : State → Prop} (E : q_E p s m meth c cX7_fitting 4 RX7 (some .int) "fitting" D cA) (hR : 3 ≤ R.frames ∧ 85 ≤ R.locals) (hcc : cells ≤ R.cells ∧ slots ≤ R.slots) (h : Nat) (v1 : Int32) (v3 : Int32) (s0 : Int32) (s1 : Int32) (Z : q_Z) (M : q_C) (H : Heap) (locs : List Loc) (ls : Array Slot) (o : (Int32 × Int32) ⊕ Int32) (hf : fX7_fitting_b37 h v1 v3 s0 s1 Z M = some o) (hH : q_Hh D cA z0 s Z M H locs) (hl : lv_has ls 4 [(0, .ref h), (1, .int v1), (3, .int v3)]) (kb : ∀ (w2 : Int32) (w3 : Int32) (H : Heap) (locs : List Loc) (ls : Array Slot), Sum.inl (w2, w3) = o → q_Hh D cA z0 s Z M H locs → lv_has ls 4 [(0, .ref h), (1, .int v1), (2, .int w2), (3, .int w3)] → W p l e R s m args below meth c H locs cells slots Q (F0 m 14 ls [])) (kx0 : ∀ (w2 : Int32) (H : Heap) (locs : List Loc) (ls : Array Slot), Sum.inr w2 = o → q_Hh D cA z0 s Z M H locs → lv_has ls 4 [(2, .int w2)] → W p l e R s m args below meth c H locs cells slots Q (F0 m 45 ls [])) : W p l e R s m args below meth c H locs cells slots Q (F0 m 37 ls [.int s0, .int s1]) := by
  have hx := E.1
  have hb := E.2.1
  have hown := E.2.2.2.1
  have hT := E.2.2.2.2.2.2.2.1
  unfold fX7_fitting_b37 at hf
  refine lv_iadd hx hb dX7_fitting_37 ?_
  refine lv_topi (fun v2_7 hn_8 => ?_)
  replace hf := q_nmE hn_8 hf
  clear hn_8
  refine lv_istore_n (lv' := [(2, .int v2_7), (0, .ref h), (1, .int v1), (3, .int v3)]) hx hb dX7_fitting_38 rfl hl (by decide) rfl (fun ls hl => ?_)
  obtain ⟨v3_9, hn_10⟩ : ∃ y : Int32, y = v3 + (1 : Int32) := ⟨_, rfl⟩
  replace hf := q_nmE hn_10 hf
  refine lv_iinc (v := v3_9) (lv' := [(3, .int v3_9), (2, .int v2_7), (0, .ref h), (1, .int v1)]) hx hb dX7_fitting_39 hl (k := 3) rfl (by rw [hn_10]; rfl) (by decide) rfl (fun ls hl => ?_)
  clear hn_10
  refine lv_goto (tgt := 14) hx hb dX7_fitting_42 (by decide) ?_
  cases hf
  exact kb v2_7 v3_9 _ _ _ rfl hH (lv_sub hl [2, 3, 1, 0] rfl)
def fX7_fitting_L14 (h : Nat) (v1 : Int32) (v2 : Int32) (v3 : Int32) (Z : q_Z) (M : q_C) : Option ((Int32 × Int32) ⊕ Int32) :=
  q_gd (zK Z h == 17) <|
  if gI M h 13 ≤ v3 then
    some (Sum.inr v2)
  else
    Option.bind (fX7_fitsThen h v3 v1 Z M) fun r_5 =>
    if r_5 = 0 then
      fX7_fitting_b37 h v1 v3 (0 : Int32) v2 Z M
    else
      fX7_fitting_b37 h v1 v3 (1 : Int32) v2 Z M
set_option maxHeartbeats 4000000 in
set_option maxRecDepth 100000 in
theorem lX7_fitting_14 {cells slots : Nat} {Q : State → Prop} (E : q_E p s m meth c cX7_fitting 4 RX7 (some .int) "fitting" D cA) (hR : 3 ≤ R.frames ∧ 85 ≤ R.locals) (hcc : cells ≤ R.cells ∧ slots ≤ R.slots)  (h : Nat) (v1 : Int32) (Z : q_Z) (M : q_C) : ∀ (n : Nat) (v2 : Int32) (v3 : Int32) (H : Heap) (locs : List Loc) (ls : Array Slot) (r : Int32), q_it (fun x => fX7_fitting_L14 h v1 x.1 x.2 Z M) n (v2, v3) = some r → q_Hh D cA z0 s Z M H locs → lv_has ls 4 [(0, .ref h), (1, .int v1), (2, .int v2), (3, .int v3)] → (kx0 : ∀ (w2 : Int32) (H : Heap) (locs : List Loc) (ls : Array Slot), w2 = r → q_Hh D cA z0 s Z M H locs → lv_has ls 4 [(2, .int w2)] → W p l e R s m args below meth c H locs cells slots Q (F0 m 45 ls [])) → W p l e R s m args below meth c H locs cells slots Q (F0 m 14 ls []) := by
  have hx := E.1
  have hb := E.2.1
  have hown := E.2.2.2.1
  have hT := E.2.2.2.2.2.2.2.1
  intro n
  induction n with
  | zero =>
    intro v2 v3 H locs ls r hf
    cases hf
  | succ n ih =>
    intro v2 v3 H locs ls r hf hH hl ky0
    obtain ⟨n1, o, hn, hf, ho⟩ := q_itE hf
    cases hn
    have hf : fX7_fitting_L14 h v1 v2 v3 Z M = some o := hf
    have kb : ∀ (w2 : Int32) (w3 : Int32) (H : Heap) (locs : List Loc) (ls : Array Slot), Sum.inl (w2, w3) = o → q_Hh D cA z0 s Z M H locs → lv_has ls 4 [(0, .ref h), (1, .int v1), (2, .int w2), (3, .int w3)] → W p l e R s m args below meth c H locs cells slots Q (F0 m 14 ls []) := by
      intro w2 w3 H locs ls e hH hl
      subst e
      exact ih w2 w3 H locs ls r ho hH hl ky0
    have kx0 : ∀ (w2 : Int32) (H : Heap) (locs : List Loc) (ls : Array Slot), Sum.inr w2 = o → q_Hh D cA z0 s Z M H locs → lv_has ls 4 [(2, .int w2)] → W p l e R s m args below meth c H locs cells slots Q (F0 m 45 ls []) := by
      intro w2 H locs ls e hH hl
      subst e
      exact ky0 w2 H locs ls ho hH hl
    unfold fX7_fitting_L14 at hf
    refine lv_iload_n hx hb dX7_fitting_14 rfl (lv_at hl 3 rfl) ?_
    refine lv_aload_n hx hb dX7_fitting_15 rfl (lv_at hl 0 rfl) ?_
    obtain ⟨hk_4, hf⟩ := q_gdE hf
    have hk_4 := q_keq hk_4
    refine q_getI E hH (ci := 7) rfl 13 (by decide) kF_X7_50 (fun _ _ _ => rfl) hk_4 dX7_fitting_16 ?_
    refine lv_icmp_ge (tgt := 45) hx hb dX7_fitting_19 (by decide) (fun cc_12 => ?_) (fun cc_12 => ?_)
    · replace hf := q_ifT cc_12 hf
      clear cc_12
      cases hf
      exact kx0 v2 _ _ _ rfl hH (lv_sub hl [2] rfl)
    · replace hf := q_ifF cc_12 hf
      clear cc_12
      refine lv_iload_n hx hb dX7_fitting_22 rfl (lv_at hl 2 rfl) ?_
      refine lv_aload_n hx hb dX7_fitting_23 rfl (lv_at hl 0 rfl) ?_
      refine lv_iload_n hx hb dX7_fitting_24 rfl (lv_at hl 3 rfl) ?_
      refine lv_iload_n hx hb dX7_fitting_25 rfl (lv_at hl 1 rfl) ?_
      obtain ⟨r_5, hw_6, hf⟩ := q_biE hf
      refine q_cV (As := [.int v3, .int v1]) (rest := [.int v2]) (st1 := [.int r_5, .int v2]) E hH (tX7_fitsThen l D cA z0 h v3 v1 Z M r_5 hw_6) mw_X7_fitsThen mi_X7_fitsThen (ci := 7) rfl ms_X7_fitsThen kM_X7_191 hk_4 hcc rfl rfl rfl hl.1 rfl rfl (Nat.le_of_ble_eq_true rfl) ⟨Nat.le_trans (by decide) hR.1, Nat.le_trans (by decide) hR.2⟩ dX7_fitting_26 (fun H locs hH => ?_)
      refine lv_if_eq (tgt := 36) hx hb dX7_fitting_29 (by decide) (fun cc_11 => ?_) (fun cc_11 => ?_)
      · replace hf := q_ifT cc_11 hf
        clear cc_11
        refine lv_iconst (v := 0) hx hb dX7_fitting_36 (by decide) ?_
        exact bX7_fitting_37 E hR hcc h v1 v3 (0 : Int32) v2 Z M _ _ _ _ hf hH (lv_sub hl [0, 1, 3] rfl) kb kx0
      · replace hf := q_ifF cc_11 hf
        clear cc_11
        refine lv_iconst (v := 1) hx hb dX7_fitting_32 (by decide) ?_
        refine lv_goto (tgt := 37) hx hb dX7_fitting_33 (by decide) ?_
        exact bX7_fitting_37 E hR hcc h v1 v3 (1 : Int32) v2 Z M _ _ _ _ hf hH (lv_sub hl [0, 1, 3] rfl) kb kx0
def fX7_fitting (h : Nat) (v1 : Int32) (Z : q_Z) (M : q_C) : Option (Int32) :=
  q_gd (zK Z h == 17) <|
  Option.bind (fX7_isSight h v1 Z M) fun r_2 =>
  if r_2 = 0 then
    some (-1 : Int32)
  else
    Option.bind (q_it (fun x => fX7_fitting_L14 h v1 x.1 x.2 Z M) q_FU ((0 : Int32), (0 : Int32))) fun r_13 =>
    q_nm r_13 fun v2_15 =>
    some v2_15
set_option maxHeartbeats 4000000 in
set_option maxRecDepth 100000 in
theorem bX7_fitting_0 {cells slots : Nat} (E : q_E p s m meth c cX7_fitting 4 RX7 (some .int) "fitting" D cA) (hR : 3 ≤ R.frames ∧ 85 ≤ R.locals) (hcc : cells ≤ R.cells ∧ slots ≤ R.slots) (h : Nat) (v1 : Int32) (Z : q_Z) (M : q_C) (H : Heap) (locs : List Loc) (ls : Array Slot) (r : Int32) (hf : fX7_fitting h v1 Z M = some r) (hH : q_Hh D cA z0 s Z M H locs) (hl : lv_has ls 4 [(0, .ref h), (1, .int v1)])  : W p l e R s m args below meth c H locs cells slots (MQ below (q_Q D cA z0 (some (.int r)) Z M) args s cells slots (fun q => z0 ≤ q)) (F0 m 0 ls []) := by
  have hx := E.1
  have hb := E.2.1
  have hown := E.2.2.2.1
  have hT := E.2.2.2.2.2.2.2.1
  unfold fX7_fitting at hf
  refine lv_aload_n hx hb dX7_fitting_0 rfl (lv_at hl 0 rfl) ?_
  refine lv_iload_n hx hb dX7_fitting_1 rfl (lv_at hl 1 rfl) ?_
  obtain ⟨hk_1, hf⟩ := q_gdE hf
  have hk_1 := q_keq hk_1
  obtain ⟨r_2, hw_3, hf⟩ := q_biE hf
  refine q_cV (As := [.int v1]) (rest := []) (st1 := [.int r_2]) E hH (tX7_isSight l D cA z0 h v1 Z M r_2 hw_3) mw_X7_isSight mi_X7_isSight (ci := 7) rfl ms_X7_isSight kM_X7_114 hk_1 hcc rfl rfl rfl hl.1 rfl rfl (Nat.le_of_ble_eq_true rfl) ⟨Nat.le_trans (by decide) hR.1, Nat.le_trans (by decide) hR.2⟩ dX7_fitting_2 (fun H locs hH => ?_)
  refine lv_if_ne (tgt := 10) hx hb dX7_fitting_5 (by decide) (fun cc_17 => ?_) (fun cc_17 => ?_)
  · replace hf := q_ifF cc_17 hf
    clear cc_17
    refine lv_iconst (v := 0) hx hb dX7_fitting_10 (by decide) ?_
    refine lv_istore_n (lv' := [(2, .int (0 : Int32)), (0, .ref h), (1, .int v1)]) hx hb dX7_fitting_11 rfl hl (by decide) rfl (fun ls hl => ?_)
    refine lv_iconst (v := 0) hx hb dX7_fitting_12 (by decide) ?_
    refine lv_istore_n (lv' := [(3, .int (0 : Int32)), (2, .int (0 : Int32)), (0, .ref h), (1, .int v1)]) hx hb dX7_fitting_13 rfl hl (by decide) rfl (fun ls hl => ?_)
    obtain ⟨r_13, hr_14, hf⟩ := q_biE hf
    refine lX7_fitting_14 E hR hcc h v1 Z M q_FU (0 : Int32) (0 : Int32) _ _ _ r_13 hr_14 hH (lv_sub hl [2, 3, 1, 0] rfl) (fun v2_15 H locs ls he_16 hH hl => ?_)
    · subst he_16
      replace hf := q_nmE (x := v2_15) rfl hf
      refine lv_iload_n hx hb dX7_fitting_45 rfl (lv_at hl 0 rfl) ?_
      cases hf
      exact q_iret E hH dX7_fitting_46
  · replace hf := q_ifT cc_17 hf
    clear cc_17
    refine lv_iconst (v := -1) hx hb dX7_fitting_8 (by decide) ?_
    cases hf
    exact q_iret E hH dX7_fitting_9
set_option maxRecDepth 100000 in
theorem tX7_fitting (l : Launch) (D : va_G) (cA : Nat → ClassId) (z0 : Nat) (h : Nat) (v1 : Int32) (Z : q_Z) (M : q_C) (r : Int32) (hf : fX7_fitting h v1 Z M = some r) : q_Ct l D cA z0 yX7_fitting cX7_fitting 4 (some .int) 3 85 [.ref h, .int v1] Z M (some (.int r)) Z M 0 0 := by
  (refine q_start (plainFor_of_name (by decide)) (Nat.le_of_ble_eq_true rfl) (fun p e s m below meth c H ls E hH hl => ?_); exact bX7_fitting_0 E ⟨Nat.le_refl _, Nat.le_refl _⟩ ⟨Nat.le_refl _, Nat.le_refl _⟩ h _ Z M H [] ls r hf hH hl)
def fX7_holds_b131 (h : Nat) (v1 : Int32) (v2 : Int32) (v3 : Int32) (Z : q_Z) (M : q_C) : Option ((Int32 × q_C) ⊕ q_C) :=
  q_nm (v3 + (1 : Int32)) fun v3_30 =>
  some (Sum.inl (v3_30, M))
set_option maxHeartbeats 4000000 in
set_option maxRecDepth 100000 in
theorem bX7_holds_131 {cells slots : Nat} {Q : State → Prop} (E : q_E p s m meth c cX7_holds 4 RX7 none "holds" D cA) (hR : 0 ≤ R.frames ∧ 0 ≤ R.locals) (hcc : cells ≤ R.cells ∧ slots ≤ R.slots) (h : Nat) (v1 : Int32) (v2 : Int32) (v3 : Int32) (Z : q_Z) (M : q_C) (H : Heap) (locs : List Loc) (ls : Array Slot) (o : (Int32 × q_C) ⊕ q_C) (hf : fX7_holds_b131 h v1 v2 v3 Z M = some o) (hH : q_Hh D cA z0 s Z M H locs) (hl : lv_has ls 4 [(0, .ref h), (1, .int v1), (2, .int v2), (3, .int v3)]) (kb : ∀ (w3 : Int32) (M1 : q_C) (H : Heap) (locs : List Loc) (ls : Array Slot), Sum.inl (w3, M1) = o → q_Hh D cA z0 s Z M1 H locs → lv_has ls 4 [(0, .ref h), (1, .int v1), (2, .int v2), (3, .int w3)] → W p l e R s m args below meth c H locs cells slots Q (F0 m 5 ls [])) (kx0 : ∀ (M1 : q_C) (H : Heap) (locs : List Loc) (ls : Array Slot), Sum.inr M1 = o → q_Hh D cA z0 s Z M1 H locs → lv_has ls 4 [] → W p l e R s m args below meth c H locs cells slots Q (F0 m 137 ls [])) : W p l e R s m args below meth c H locs cells slots Q (F0 m 131 ls []) := by
  have hx := E.1
  have hb := E.2.1
  have hown := E.2.2.2.1
  have hT := E.2.2.2.2.2.2.2.1
  unfold fX7_holds_b131 at hf
  obtain ⟨v3_30, hn_31⟩ : ∃ y : Int32, y = v3 + (1 : Int32) := ⟨_, rfl⟩
  replace hf := q_nmE hn_31 hf
  refine lv_iinc (v := v3_30) (lv' := [(3, .int v3_30), (0, .ref h), (1, .int v1), (2, .int v2)]) hx hb dX7_holds_131 hl (k := 3) rfl (by rw [hn_31]; rfl) (by decide) rfl (fun ls hl => ?_)
  clear hn_31
  refine lv_goto (tgt := 5) hx hb dX7_holds_134 (by decide) ?_
  cases hf
  exact kb v3_30 M _ _ _ rfl hH (lv_sub hl [1, 2, 3, 0] rfl)
def fX7_holds_L5 (h : Nat) (v1 : Int32) (v2 : Int32) (v3 : Int32) (Z : q_Z) (M : q_C) : Option ((Int32 × q_C) ⊕ q_C) :=
  if (601 : Int32) ≤ v3 then
    some (Sum.inr M)
  else
    if v1 = 0 then
      q_gd (zK Z h == 17) <|
      Option.bind (gR M h 26) fun a_2 =>
      Option.bind (gR M h 17) fun a_4 =>
      q_gd (q_ok Z a_4 2 (v2 + v3)) <|
      q_gd (q_ok Z a_2 2 v3) <|
      q_nm (sJ M a_2 v3.toNatClampNeg (gJ M a_4 (v2 + v3).toNatClampNeg)) fun M_8 =>
      Option.bind (gR M_8 h 27) fun a_9 =>
      Option.bind (gR M_8 h 18) fun a_11 =>
      q_gd (q_ok Z a_11 2 (v2 + v3)) <|
      q_gd (q_ok Z a_9 2 v3) <|
      q_nm (sJ M_8 a_9 v3.toNatClampNeg (gJ M_8 a_11 (v2 + v3).toNatClampNeg)) fun M_15 =>
      Option.bind (gR M_15 h 28) fun a_16 =>
      Option.bind (gR M_15 h 19) fun a_18 =>
      q_gd (q_ok Z a_18 2 (v2 + v3)) <|
      q_gd (q_ok Z a_16 2 v3) <|
      q_nm (sJ M_15 a_16 v3.toNatClampNeg (gJ M_15 a_18 (v2 + v3).toNatClampNeg)) fun M_22 =>
      Option.bind (gR M_22 h 29) fun a_23 =>
      Option.bind (gR M_22 h 20) fun a_25 =>
      q_gd (q_ok Z a_25 2 (v2 + v3)) <|
      q_gd (q_ok Z a_23 2 v3) <|
      q_nm (sJ M_22 a_23 v3.toNatClampNeg (gJ M_22 a_25 (v2 + v3).toNatClampNeg)) fun M_29 =>
      fX7_holds_b131 h v1 v2 v3 Z M_29
    else
      q_gd (zK Z h == 17) <|
      Option.bind (gR M h 17) fun a_33 =>
      Option.bind (gR M h 26) fun a_35 =>
      q_gd (q_ok Z a_35 2 v3) <|
      q_gd (q_ok Z a_33 2 (v2 + v3)) <|
      q_nm (sJ M a_33 (v2 + v3).toNatClampNeg (gJ M a_35 v3.toNatClampNeg)) fun M_39 =>
      Option.bind (gR M_39 h 18) fun a_40 =>
      Option.bind (gR M_39 h 27) fun a_42 =>
      q_gd (q_ok Z a_42 2 v3) <|
      q_gd (q_ok Z a_40 2 (v2 + v3)) <|
      q_nm (sJ M_39 a_40 (v2 + v3).toNatClampNeg (gJ M_39 a_42 v3.toNatClampNeg)) fun M_46 =>
      Option.bind (gR M_46 h 19) fun a_47 =>
      Option.bind (gR M_46 h 28) fun a_49 =>
      q_gd (q_ok Z a_49 2 v3) <|
      q_gd (q_ok Z a_47 2 (v2 + v3)) <|
      q_nm (sJ M_46 a_47 (v2 + v3).toNatClampNeg (gJ M_46 a_49 v3.toNatClampNeg)) fun M_53 =>
      Option.bind (gR M_53 h 20) fun a_54 =>
      Option.bind (gR M_53 h 29) fun a_56 =>
      q_gd (q_ok Z a_56 2 v3) <|
      q_gd (q_ok Z a_54 2 (v2 + v3)) <|
      q_nm (sJ M_53 a_54 (v2 + v3).toNatClampNeg (gJ M_53 a_56 v3.toNatClampNeg)) fun M_60 =>
      fX7_holds_b131 h v1 v2 v3 Z M_60
set_option maxHeartbeats 4000000 in
set_option maxRecDepth 100000 in
theorem lX7_holds_5 {cells slots : Nat} {Q : State → Prop} (E : q_E p s m meth c cX7_holds 4 RX7 none "holds" D cA) (hR : 0 ≤ R.frames ∧ 0 ≤ R.locals) (hcc : cells ≤ R.cells ∧ slots ≤ R.slots)  (h : Nat) (v1 : Int32) (v2 : Int32) (Z : q_Z) : ∀ (n : Nat) (v3 : Int32) (M : q_C) (H : Heap) (locs : List Loc) (ls : Array Slot) (r : q_C), q_it (fun x => fX7_holds_L5 h v1 v2 x.1 Z x.2) n (v3, M) = some r → q_Hh D cA z0 s Z M H locs → lv_has ls 4 [(0, .ref h), (1, .int v1), (2, .int v2), (3, .int v3)] → (kx0 : ∀ (M1 : q_C) (H : Heap) (locs : List Loc) (ls : Array Slot), M1 = r → q_Hh D cA z0 s Z M1 H locs → lv_has ls 4 [] → W p l e R s m args below meth c H locs cells slots Q (F0 m 137 ls [])) → W p l e R s m args below meth c H locs cells slots Q (F0 m 5 ls []) := by
  have hx := E.1
  have hb := E.2.1
  have hown := E.2.2.2.1
  have hT := E.2.2.2.2.2.2.2.1
  intro n
  induction n with
  | zero =>
    intro v3 M H locs ls r hf
    cases hf
  | succ n ih =>
    intro v3 M H locs ls r hf hH hl ky0
    obtain ⟨n1, o, hn, hf, ho⟩ := q_itE hf
    cases hn
    have hf : fX7_holds_L5 h v1 v2 v3 Z M = some o := hf
    have kb : ∀ (w3 : Int32) (M1 : q_C) (H : Heap) (locs : List Loc) (ls : Array Slot), Sum.inl (w3, M1) = o → q_Hh D cA z0 s Z M1 H locs → lv_has ls 4 [(0, .ref h), (1, .int v1), (2, .int v2), (3, .int w3)] → W p l e R s m args below meth c H locs cells slots Q (F0 m 5 ls []) := by
      intro w3 M1 H locs ls e hH hl
      subst e
      exact ih w3 M1 H locs ls r ho hH hl ky0
    have kx0 : ∀ (M1 : q_C) (H : Heap) (locs : List Loc) (ls : Array Slot), Sum.inr M1 = o → q_Hh D cA z0 s Z M1 H locs → lv_has ls 4 [] → W p l e R s m args below meth c H locs cells slots Q (F0 m 137 ls []) := by
      intro M1 H locs ls e hH hl
      subst e
      exact ky0 M1 H locs ls ho hH hl
    unfold fX7_holds_L5 at hf
    refine lv_iload_n hx hb dX7_holds_5 rfl (lv_at hl 3 rfl) ?_
    refine lv_sipush (v := 601) hx hb dX7_holds_6 (by decide) ?_
    refine lv_icmp_ge (tgt := 137) hx hb dX7_holds_9 (by decide) (fun cc_62 => ?_) (fun cc_62 => ?_)
    · replace hf := q_ifT cc_62 hf
      clear cc_62
      cases hf
      exact kx0 M _ _ _ rfl hH (lv_sub hl [] rfl)
    · replace hf := q_ifF cc_62 hf
      clear cc_62
      refine lv_iload_n hx hb dX7_holds_12 rfl (lv_at hl 1 rfl) ?_
      refine lv_if_eq (tgt := 75) hx hb dX7_holds_13 (by decide) (fun cc_61 => ?_) (fun cc_61 => ?_)
      · replace hf := q_ifT cc_61 hf
        clear cc_61
        refine lv_aload_n hx hb dX7_holds_75 rfl (lv_at hl 0 rfl) ?_
        obtain ⟨hk_1, hf⟩ := q_gdE hf
        have hk_1 := q_keq hk_1
        refine q_getR E hH (ci := 7) rfl 26 (by decide) kF_X7_92 (fun _ _ _ => rfl) hk_1 dX7_holds_76 ?_
        obtain ⟨a_2, he_3, hf⟩ := q_biE hf
        rw [he_3]
        refine lv_iload_n hx hb dX7_holds_79 rfl (lv_at hl 3 rfl) ?_
        refine lv_aload_n hx hb dX7_holds_80 rfl (lv_at hl 0 rfl) ?_
        refine q_getR E hH (ci := 7) rfl 17 (by decide) kF_X7_63 (fun _ _ _ => rfl) hk_1 dX7_holds_81 ?_
        obtain ⟨a_4, he_5, hf⟩ := q_biE hf
        rw [he_5]
        refine lv_iload_n hx hb dX7_holds_84 rfl (lv_at hl 2 rfl) ?_
        refine lv_iload_n hx hb dX7_holds_85 rfl (lv_at hl 3 rfl) ?_
        refine lv_iadd hx hb dX7_holds_86 ?_
        obtain ⟨hz_6, hf⟩ := q_gdE hf
        refine q_laload E hH hz_6 dX7_holds_87 ?_
        obtain ⟨hz_7, hf⟩ := q_gdE hf
        refine q_lastore E hH hz_7 dX7_holds_88 hf (fun M_8 H locs hH hf => ?_)
        refine lv_aload_n hx hb dX7_holds_89 rfl (lv_at hl 0 rfl) ?_
        refine q_getR E hH (ci := 7) rfl 27 (by decide) kF_X7_95 (fun _ _ _ => rfl) hk_1 dX7_holds_90 ?_
        obtain ⟨a_9, he_10, hf⟩ := q_biE hf
        rw [he_10]
        refine lv_iload_n hx hb dX7_holds_93 rfl (lv_at hl 3 rfl) ?_
        refine lv_aload_n hx hb dX7_holds_94 rfl (lv_at hl 0 rfl) ?_
        refine q_getR E hH (ci := 7) rfl 18 (by decide) kF_X7_67 (fun _ _ _ => rfl) hk_1 dX7_holds_95 ?_
        obtain ⟨a_11, he_12, hf⟩ := q_biE hf
        rw [he_12]
        refine lv_iload_n hx hb dX7_holds_98 rfl (lv_at hl 2 rfl) ?_
        refine lv_iload_n hx hb dX7_holds_99 rfl (lv_at hl 3 rfl) ?_
        refine lv_iadd hx hb dX7_holds_100 ?_
        obtain ⟨hz_13, hf⟩ := q_gdE hf
        refine q_laload E hH hz_13 dX7_holds_101 ?_
        obtain ⟨hz_14, hf⟩ := q_gdE hf
        refine q_lastore E hH hz_14 dX7_holds_102 hf (fun M_15 H locs hH hf => ?_)
        refine lv_aload_n hx hb dX7_holds_103 rfl (lv_at hl 0 rfl) ?_
        refine q_getR E hH (ci := 7) rfl 28 (by decide) kF_X7_98 (fun _ _ _ => rfl) hk_1 dX7_holds_104 ?_
        obtain ⟨a_16, he_17, hf⟩ := q_biE hf
        rw [he_17]
        refine lv_iload_n hx hb dX7_holds_107 rfl (lv_at hl 3 rfl) ?_
        refine lv_aload_n hx hb dX7_holds_108 rfl (lv_at hl 0 rfl) ?_
        refine q_getR E hH (ci := 7) rfl 19 (by decide) kF_X7_70 (fun _ _ _ => rfl) hk_1 dX7_holds_109 ?_
        obtain ⟨a_18, he_19, hf⟩ := q_biE hf
        rw [he_19]
        refine lv_iload_n hx hb dX7_holds_112 rfl (lv_at hl 2 rfl) ?_
        refine lv_iload_n hx hb dX7_holds_113 rfl (lv_at hl 3 rfl) ?_
        refine lv_iadd hx hb dX7_holds_114 ?_
        obtain ⟨hz_20, hf⟩ := q_gdE hf
        refine q_laload E hH hz_20 dX7_holds_115 ?_
        obtain ⟨hz_21, hf⟩ := q_gdE hf
        refine q_lastore E hH hz_21 dX7_holds_116 hf (fun M_22 H locs hH hf => ?_)
        refine lv_aload_n hx hb dX7_holds_117 rfl (lv_at hl 0 rfl) ?_
        refine q_getR E hH (ci := 7) rfl 29 (by decide) kF_X7_101 (fun _ _ _ => rfl) hk_1 dX7_holds_118 ?_
        obtain ⟨a_23, he_24, hf⟩ := q_biE hf
        rw [he_24]
        refine lv_iload_n hx hb dX7_holds_121 rfl (lv_at hl 3 rfl) ?_
        refine lv_aload_n hx hb dX7_holds_122 rfl (lv_at hl 0 rfl) ?_
        refine q_getR E hH (ci := 7) rfl 20 (by decide) kF_X7_73 (fun _ _ _ => rfl) hk_1 dX7_holds_123 ?_
        obtain ⟨a_25, he_26, hf⟩ := q_biE hf
        rw [he_26]
        refine lv_iload_n hx hb dX7_holds_126 rfl (lv_at hl 2 rfl) ?_
        refine lv_iload_n hx hb dX7_holds_127 rfl (lv_at hl 3 rfl) ?_
        refine lv_iadd hx hb dX7_holds_128 ?_
        obtain ⟨hz_27, hf⟩ := q_gdE hf
        refine q_laload E hH hz_27 dX7_holds_129 ?_
        obtain ⟨hz_28, hf⟩ := q_gdE hf
        refine q_lastore E hH hz_28 dX7_holds_130 hf (fun M_29 H locs hH hf => ?_)
        exact bX7_holds_131 E hR hcc h v1 v2 v3 Z M_29 _ _ _ _ hf hH (lv_sub hl [0, 1, 2, 3] rfl) kb kx0
      · replace hf := q_ifF cc_61 hf
        clear cc_61
        refine lv_aload_n hx hb dX7_holds_16 rfl (lv_at hl 0 rfl) ?_
        obtain ⟨hk_32, hf⟩ := q_gdE hf
        have hk_32 := q_keq hk_32
        refine q_getR E hH (ci := 7) rfl 17 (by decide) kF_X7_63 (fun _ _ _ => rfl) hk_32 dX7_holds_17 ?_
        obtain ⟨a_33, he_34, hf⟩ := q_biE hf
        rw [he_34]
        refine lv_iload_n hx hb dX7_holds_20 rfl (lv_at hl 2 rfl) ?_
        refine lv_iload_n hx hb dX7_holds_21 rfl (lv_at hl 3 rfl) ?_
        refine lv_iadd hx hb dX7_holds_22 ?_
        refine lv_aload_n hx hb dX7_holds_23 rfl (lv_at hl 0 rfl) ?_
        refine q_getR E hH (ci := 7) rfl 26 (by decide) kF_X7_92 (fun _ _ _ => rfl) hk_32 dX7_holds_24 ?_
        obtain ⟨a_35, he_36, hf⟩ := q_biE hf
        rw [he_36]
        refine lv_iload_n hx hb dX7_holds_27 rfl (lv_at hl 3 rfl) ?_
        obtain ⟨hz_37, hf⟩ := q_gdE hf
        refine q_laload E hH hz_37 dX7_holds_28 ?_
        obtain ⟨hz_38, hf⟩ := q_gdE hf
        refine q_lastore E hH hz_38 dX7_holds_29 hf (fun M_39 H locs hH hf => ?_)
        refine lv_aload_n hx hb dX7_holds_30 rfl (lv_at hl 0 rfl) ?_
        refine q_getR E hH (ci := 7) rfl 18 (by decide) kF_X7_67 (fun _ _ _ => rfl) hk_32 dX7_holds_31 ?_
        obtain ⟨a_40, he_41, hf⟩ := q_biE hf
        rw [he_41]
        refine lv_iload_n hx hb dX7_holds_34 rfl (lv_at hl 2 rfl) ?_
        refine lv_iload_n hx hb dX7_holds_35 rfl (lv_at hl 3 rfl) ?_
        refine lv_iadd hx hb dX7_holds_36 ?_
        refine lv_aload_n hx hb dX7_holds_37 rfl (lv_at hl 0 rfl) ?_
        refine q_getR E hH (ci := 7) rfl 27 (by decide) kF_X7_95 (fun _ _ _ => rfl) hk_32 dX7_holds_38 ?_
        obtain ⟨a_42, he_43, hf⟩ := q_biE hf
        rw [he_43]
        refine lv_iload_n hx hb dX7_holds_41 rfl (lv_at hl 3 rfl) ?_
        obtain ⟨hz_44, hf⟩ := q_gdE hf
        refine q_laload E hH hz_44 dX7_holds_42 ?_
        obtain ⟨hz_45, hf⟩ := q_gdE hf
        refine q_lastore E hH hz_45 dX7_holds_43 hf (fun M_46 H locs hH hf => ?_)
        refine lv_aload_n hx hb dX7_holds_44 rfl (lv_at hl 0 rfl) ?_
        refine q_getR E hH (ci := 7) rfl 19 (by decide) kF_X7_70 (fun _ _ _ => rfl) hk_32 dX7_holds_45 ?_
        obtain ⟨a_47, he_48, hf⟩ := q_biE hf
        rw [he_48]
        refine lv_iload_n hx hb dX7_holds_48 rfl (lv_at hl 2 rfl) ?_
        refine lv_iload_n hx hb dX7_holds_49 rfl (lv_at hl 3 rfl) ?_
        refine lv_iadd hx hb dX7_holds_50 ?_
        refine lv_aload_n hx hb dX7_holds_51 rfl (lv_at hl 0 rfl) ?_
        refine q_getR E hH (ci := 7) rfl 28 (by decide) kF_X7_98 (fun _ _ _ => rfl) hk_32 dX7_holds_52 ?_
        obtain ⟨a_49, he_50, hf⟩ := q_biE hf
        rw [he_50]
        refine lv_iload_n hx hb dX7_holds_55 rfl (lv_at hl 3 rfl) ?_
        obtain ⟨hz_51, hf⟩ := q_gdE hf
        refine q_laload E hH hz_51 dX7_holds_56 ?_
        obtain ⟨hz_52, hf⟩ := q_gdE hf
        refine q_lastore E hH hz_52 dX7_holds_57 hf (fun M_53 H locs hH hf => ?_)
        refine lv_aload_n hx hb dX7_holds_58 rfl (lv_at hl 0 rfl) ?_
        refine q_getR E hH (ci := 7) rfl 20 (by decide) kF_X7_73 (fun _ _ _ => rfl) hk_32 dX7_holds_59 ?_
        obtain ⟨a_54, he_55, hf⟩ := q_biE hf
        rw [he_55]
        refine lv_iload_n hx hb dX7_holds_62 rfl (lv_at hl 2 rfl) ?_
        refine lv_iload_n hx hb dX7_holds_63 rfl (lv_at hl 3 rfl) ?_
        refine lv_iadd hx hb dX7_holds_64 ?_
        refine lv_aload_n hx hb dX7_holds_65 rfl (lv_at hl 0 rfl) ?_
        refine q_getR E hH (ci := 7) rfl 29 (by decide) kF_X7_101 (fun _ _ _ => rfl) hk_32 dX7_holds_66 ?_
        obtain ⟨a_56, he_57, hf⟩ := q_biE hf
        rw [he_57]
        refine lv_iload_n hx hb dX7_holds_69 rfl (lv_at hl 3 rfl) ?_
        obtain ⟨hz_58, hf⟩ := q_gdE hf
        refine q_laload E hH hz_58 dX7_holds_70 ?_
        obtain ⟨hz_59, hf⟩ := q_gdE hf
        refine q_lastore E hH hz_59 dX7_holds_71 hf (fun M_60 H locs hH hf => ?_)
        refine lv_goto (tgt := 131) hx hb dX7_holds_72 (by decide) ?_
        exact bX7_holds_131 E hR hcc h v1 v2 v3 Z M_60 _ _ _ _ hf hH (lv_sub hl [0, 1, 2, 3] rfl) kb kx0
def fX7_holds (h : Nat) (v1 : Int32) (Z : q_Z) (M : q_C) : Option (q_C) :=
  Option.bind (q_it (fun x => fX7_holds_L5 h v1 (59499 : Int32) x.1 Z x.2) q_FU ((0 : Int32), M)) fun r_63 =>
  q_nm r_63 fun M_65 =>
  some M_65
set_option maxHeartbeats 4000000 in
set_option maxRecDepth 100000 in
theorem bX7_holds_0 {cells slots : Nat} (E : q_E p s m meth c cX7_holds 4 RX7 none "holds" D cA) (hR : 0 ≤ R.frames ∧ 0 ≤ R.locals) (hcc : cells ≤ R.cells ∧ slots ≤ R.slots) (h : Nat) (v1 : Int32) (Z : q_Z) (M : q_C) (H : Heap) (locs : List Loc) (ls : Array Slot) (M' : q_C) (hf : fX7_holds h v1 Z M = some M') (hH : q_Hh D cA z0 s Z M H locs) (hl : lv_has ls 4 [(0, .ref h), (1, .int v1)])  : W p l e R s m args below meth c H locs cells slots (MQ below (q_Q D cA z0 none Z M') args s cells slots (fun q => z0 ≤ q)) (F0 m 0 ls []) := by
  have hx := E.1
  have hb := E.2.1
  have hown := E.2.2.2.1
  have hT := E.2.2.2.2.2.2.2.1
  unfold fX7_holds at hf
  refine lv_ldc hx hb hown (hT.1 _ _ kK_X7_194) dX7_holds_0 ?_
  refine lv_istore_n (lv' := [(2, .int (59499 : Int32)), (0, .ref h), (1, .int v1)]) hx hb dX7_holds_2 rfl hl (by decide) rfl (fun ls hl => ?_)
  refine lv_iconst (v := 0) hx hb dX7_holds_3 (by decide) ?_
  refine lv_istore_n (lv' := [(3, .int (0 : Int32)), (2, .int (59499 : Int32)), (0, .ref h), (1, .int v1)]) hx hb dX7_holds_4 rfl hl (by decide) rfl (fun ls hl => ?_)
  obtain ⟨r_63, hr_64, hf⟩ := q_biE hf
  refine lX7_holds_5 E hR hcc h v1 (59499 : Int32) Z q_FU (0 : Int32) M _ _ _ r_63 hr_64 hH (lv_sub hl [2, 3, 1, 0] rfl) (fun M_65 H locs ls he_66 hH hl => ?_)
  · subst he_66
    replace hf := q_nmE (x := M_65) rfl hf
    cases hf
    exact q_vret E hH dX7_holds_137
set_option maxRecDepth 100000 in
theorem tX7_holds (l : Launch) (D : va_G) (cA : Nat → ClassId) (z0 : Nat) (h : Nat) (v1 : Int32) (Z : q_Z) (M : q_C) (M' : q_C) (hf : fX7_holds h v1 Z M = some M') : q_Ct l D cA z0 yX7_holds cX7_holds 4 none 0 0 [.ref h, .int v1] Z M none Z M' 0 0 := by
  (refine q_start (plainFor_of_name (by decide)) (Nat.le_of_ble_eq_true rfl) (fun p e s m below meth c H ls E hH hl => ?_); exact bX7_holds_0 E ⟨Nat.le_refl _, Nat.le_refl _⟩ ⟨Nat.le_refl _, Nat.le_refl _⟩ h _ Z M H [] ls M' hf hH hl)
end Q233
