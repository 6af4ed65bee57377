section Q235
variable {p : Program} {l : Launch} {e : Env} {R : Room} {s : State} {m : MethodId} {args : Array Value} {below : List Frame} {meth : Method} {c : Code} {D : va_G} {cA : Nat → ClassId} {z0 : Nat}
def fX7_span_b70 (h : Nat) (v1 : Int32) (v3 : Int32) (s0 : Int32) (Z : q_Z) (M : q_C) : Option ((Int32 × Int32) ⊕ (Unit ⊕ Int32)) :=
  q_nm (v3 + (1 : Int32)) fun v3_7 =>
  some (Sum.inl (s0, v3_7))
set_option maxHeartbeats 4000000 in
set_option maxRecDepth 100000 in
theorem bX7_span_70 {cells slots : Nat} {Q : State → Prop} (E : q_E p s m meth c cX7_span 5 RX7 (some .int) "span" D cA) (hR : 2 ≤ R.frames ∧ 46 ≤ R.locals) (hcc : cells ≤ R.cells ∧ slots ≤ R.slots) (h : Nat) (v1 : Int32) (v3 : Int32) (s0 : Int32) (Z : q_Z) (M : q_C) (H : Heap) (locs : List Loc) (ls : Array Slot) (o : (Int32 × Int32) ⊕ (Unit ⊕ Int32)) (hf : fX7_span_b70 h v1 v3 s0 Z M = some o) (hH : q_Hh D cA z0 s Z M H locs) (hl : lv_has ls 5 [(0, .ref h), (1, .int v1), (3, .int v3)]) (kb : ∀ (w2 : Int32) (w3 : Int32) (H : Heap) (locs : List Loc) (ls : Array Slot), Sum.inl (w2, w3) = o → q_Hh D cA z0 s Z M H locs → lv_has ls 5 [(0, .ref h), (1, .int v1), (2, .int w2), (3, .int w3)] → W p l e R s m args below meth c H locs cells slots Q (F0 m 17 ls [])) (kx0 : ∀  (H : Heap) (locs : List Loc) (ls : Array Slot), Sum.inr (Sum.inl ()) = o → q_Hh D cA z0 s Z M H locs → lv_has ls 5 [] → W p l e R s m args below meth c H locs cells slots Q (F0 m 37 ls [])) (kx1 : ∀ (w2 : Int32) (H : Heap) (locs : List Loc) (ls : Array Slot), Sum.inr (Sum.inr w2) = o → q_Hh D cA z0 s Z M H locs → lv_has ls 5 [(2, .int w2)] → W p l e R s m args below meth c H locs cells slots Q (F0 m 77 ls [])) : W p l e R s m args below meth c H locs cells slots Q (F0 m 70 ls [.int s0]) := by
  have hx := E.1
  have hb := E.2.1
  have hown := E.2.2.2.1
  have hT := E.2.2.2.2.2.2.2.1
  unfold fX7_span_b70 at hf
  refine lv_istore_n (lv' := [(2, .int s0), (0, .ref h), (1, .int v1), (3, .int v3)]) hx hb dX7_span_70 rfl hl (by decide) rfl (fun ls hl => ?_)
  obtain ⟨v3_7, hn_8⟩ : ∃ y : Int32, y = v3 + (1 : Int32) := ⟨_, rfl⟩
  replace hf := q_nmE hn_8 hf
  refine lv_iinc (v := v3_7) (lv' := [(3, .int v3_7), (2, .int s0), (0, .ref h), (1, .int v1)]) hx hb dX7_span_71 hl (k := 3) rfl (by rw [hn_8]; rfl) (by decide) rfl (fun ls hl => ?_)
  clear hn_8
  refine lv_goto (tgt := 17) hx hb dX7_span_74 (by decide) ?_
  cases hf
  exact kb s0 v3_7 _ _ _ rfl hH (lv_sub hl [2, 3, 1, 0] rfl)
def fX7_span_L17 (h : Nat) (v1 : Int32) (v2 : Int32) (v3 : Int32) (Z : q_Z) (M : q_C) : Option ((Int32 × Int32) ⊕ (Unit ⊕ Int32)) :=
  q_gd (zK Z h == 17) <|
  if gI M h 13 ≤ v3 then
    some (Sum.inr (Sum.inr v2))
  else
    Option.bind (fX7_period h v3 Z M) fun r_5 =>
    if r_5 = 0 then
      some (Sum.inr (Sum.inl ()))
    else
      if v1 = 0 then
        if v2 ≤ r_5 then
          fX7_span_b70 h v1 v3 v2 Z M
        else
          fX7_span_b70 h v1 v3 r_5 Z M
      else
        if r_5 ≤ v2 then
          fX7_span_b70 h v1 v3 v2 Z M
        else
          fX7_span_b70 h v1 v3 r_5 Z M
set_option maxHeartbeats 4000000 in
set_option maxRecDepth 100000 in
theorem lX7_span_17 {cells slots : Nat} {Q : State → Prop} (E : q_E p s m meth c cX7_span 5 RX7 (some .int) "span" D cA) (hR : 2 ≤ R.frames ∧ 46 ≤ R.locals) (hcc : cells ≤ R.cells ∧ slots ≤ R.slots)  (h : Nat) (v1 : Int32) (Z : q_Z) (M : q_C) : ∀ (n : Nat) (v2 : Int32) (v3 : Int32) (H : Heap) (locs : List Loc) (ls : Array Slot) (r : Unit ⊕ Int32), q_it (fun x => fX7_span_L17 h v1 x.1 x.2 Z M) n (v2, v3) = some r → q_Hh D cA z0 s Z M H locs → lv_has ls 5 [(0, .ref h), (1, .int v1), (2, .int v2), (3, .int v3)] → (kx0 : ∀  (H : Heap) (locs : List Loc) (ls : Array Slot), (Sum.inl ()) = r → q_Hh D cA z0 s Z M H locs → lv_has ls 5 [] → W p l e R s m args below meth c H locs cells slots Q (F0 m 37 ls [])) → (kx1 : ∀ (w2 : Int32) (H : Heap) (locs : List Loc) (ls : Array Slot), (Sum.inr w2) = r → q_Hh D cA z0 s Z M H locs → lv_has ls 5 [(2, .int w2)] → W p l e R s m args below meth c H locs cells slots Q (F0 m 77 ls [])) → W p l e R s m args below meth c H locs cells slots Q (F0 m 17 ls []) := by
  have hx := E.1
  have hb := E.2.1
  have hown := E.2.2.2.1
  have hT := E.2.2.2.2.2.2.2.1
  intro n
  induction n with
  | zero =>
    intro v2 v3 H locs ls r hf
    cases hf
  | succ n ih =>
    intro v2 v3 H locs ls r hf hH hl ky0 ky1
    obtain ⟨n1, o, hn, hf, ho⟩ := q_itE hf
    cases hn
    have hf : fX7_span_L17 h v1 v2 v3 Z M = some o := hf
    have kb : ∀ (w2 : Int32) (w3 : Int32) (H : Heap) (locs : List Loc) (ls : Array Slot), Sum.inl (w2, w3) = o → q_Hh D cA z0 s Z M H locs → lv_has ls 5 [(0, .ref h), (1, .int v1), (2, .int w2), (3, .int w3)] → W p l e R s m args below meth c H locs cells slots Q (F0 m 17 ls []) := by
      intro w2 w3 H locs ls e hH hl
      subst e
      exact ih w2 w3 H locs ls r ho hH hl ky0 ky1
    have kx0 : ∀  (H : Heap) (locs : List Loc) (ls : Array Slot), Sum.inr (Sum.inl ()) = o → q_Hh D cA z0 s Z M H locs → lv_has ls 5 [] → W p l e R s m args below meth c H locs cells slots Q (F0 m 37 ls []) := by
      intro  H locs ls e hH hl
      subst e
      exact ky0  H locs ls ho hH hl
    have kx1 : ∀ (w2 : Int32) (H : Heap) (locs : List Loc) (ls : Array Slot), Sum.inr (Sum.inr w2) = o → q_Hh D cA z0 s Z M H locs → lv_has ls 5 [(2, .int w2)] → W p l e R s m args below meth c H locs cells slots Q (F0 m 77 ls []) := by
      intro w2 H locs ls e hH hl
      subst e
      exact ky1 w2 H locs ls ho hH hl
    unfold fX7_span_L17 at hf
    refine lv_iload_n hx hb dX7_span_17 rfl (lv_at hl 3 rfl) ?_
    refine lv_aload_n hx hb dX7_span_18 rfl (lv_at hl 0 rfl) ?_
    obtain ⟨hk_4, hf⟩ := q_gdE hf
    have hk_4 := q_keq hk_4
    refine q_getI E hH (ci := 7) rfl 13 (by decide) kF_X7_50 (fun _ _ _ => rfl) hk_4 dX7_span_19 ?_
    refine lv_icmp_ge (tgt := 77) hx hb dX7_span_22 (by decide) (fun cc_13 => ?_) (fun cc_13 => ?_)
    · replace hf := q_ifT cc_13 hf
      clear cc_13
      cases hf
      exact kx1 v2 _ _ _ rfl hH (lv_sub hl [2] rfl)
    · replace hf := q_ifF cc_13 hf
      clear cc_13
      refine lv_aload_n hx hb dX7_span_25 rfl (lv_at hl 0 rfl) ?_
      refine lv_iload_n hx hb dX7_span_26 rfl (lv_at hl 3 rfl) ?_
      obtain ⟨r_5, hw_6, hf⟩ := q_biE hf
      refine q_cV (As := [.int v3]) (rest := []) (st1 := [.int r_5]) E hH (tX7_period l D cA z0 h v3 Z M r_5 hw_6) mw_X7_period mi_X7_period (ci := 7) rfl ms_X7_period kM_X7_228 hk_4 hcc rfl rfl rfl hl.1 rfl rfl (Nat.le_of_ble_eq_true rfl) ⟨Nat.le_trans (by decide) hR.1, Nat.le_trans (by decide) hR.2⟩ dX7_span_27 (fun H locs hH => ?_)
      refine lv_istore (lv' := [(4, .int r_5), (0, .ref h), (1, .int v1), (2, .int v2), (3, .int v3)]) hx hb dX7_span_30 hl (by decide) rfl (fun ls hl => ?_)
      refine lv_iload hx hb dX7_span_32 (lv_at hl 0 rfl) ?_
      refine lv_if_ne (tgt := 39) hx hb dX7_span_34 (by decide) (fun cc_12 => ?_) (fun cc_12 => ?_)
      · replace hf := q_ifF cc_12 hf
        clear cc_12
        refine lv_iload_n hx hb dX7_span_39 rfl (lv_at hl 2 rfl) ?_
        refine lv_if_eq (tgt := 58) hx hb dX7_span_40 (by decide) (fun cc_11 => ?_) (fun cc_11 => ?_)
        · replace hf := q_ifT cc_11 hf
          clear cc_11
          refine lv_iload hx hb dX7_span_58 (lv_at hl 0 rfl) ?_
          refine lv_iload_n hx hb dX7_span_60 rfl (lv_at hl 3 rfl) ?_
          refine lv_icmp_ge (tgt := 69) hx hb dX7_span_61 (by decide) (fun cc_9 => ?_) (fun cc_9 => ?_)
          · replace hf := q_ifT cc_9 hf
            clear cc_9
            refine lv_iload_n hx hb dX7_span_69 rfl (lv_at hl 3 rfl) ?_
            exact bX7_span_70 E hR hcc h v1 v3 v2 Z M _ _ _ _ hf hH (lv_sub hl [1, 2, 4] rfl) kb kx0 kx1
          · replace hf := q_ifF cc_9 hf
            clear cc_9
            refine lv_iload hx hb dX7_span_64 (lv_at hl 0 rfl) ?_
            refine lv_goto (tgt := 70) hx hb dX7_span_66 (by decide) ?_
            exact bX7_span_70 E hR hcc h v1 v3 r_5 Z M _ _ _ _ hf hH (lv_sub hl [1, 2, 4] rfl) kb kx0 kx1
        · replace hf := q_ifF cc_11 hf
          clear cc_11
          refine lv_iload hx hb dX7_span_43 (lv_at hl 0 rfl) ?_
          refine lv_iload_n hx hb dX7_span_45 rfl (lv_at hl 3 rfl) ?_
          refine lv_icmp_le (tgt := 54) hx hb dX7_span_46 (by decide) (fun cc_10 => ?_) (fun cc_10 => ?_)
          · replace hf := q_ifT cc_10 hf
            clear cc_10
            refine lv_iload_n hx hb dX7_span_54 rfl (lv_at hl 3 rfl) ?_
            refine lv_goto (tgt := 70) hx hb dX7_span_55 (by decide) ?_
            exact bX7_span_70 E hR hcc h v1 v3 v2 Z M _ _ _ _ hf hH (lv_sub hl [1, 2, 4] rfl) kb kx0 kx1
          · replace hf := q_ifF cc_10 hf
            clear cc_10
            refine lv_iload hx hb dX7_span_49 (lv_at hl 0 rfl) ?_
            refine lv_goto (tgt := 70) hx hb dX7_span_51 (by decide) ?_
            exact bX7_span_70 E hR hcc h v1 v3 r_5 Z M _ _ _ _ hf hH (lv_sub hl [1, 2, 4] rfl) kb kx0 kx1
      · replace hf := q_ifT cc_12 hf
        clear cc_12
        cases hf
        exact kx0  _ _ _ rfl hH (lv_sub hl [] rfl)
def fX7_span (h : Nat) (v1 : Int32) (Z : q_Z) (M : q_C) : Option (Int32) :=
  q_gd (zK Z h == 17) <|
  if 0 < gI M h 13 then
    Option.bind (fX7_period h (0 : Int32) Z M) fun r_2 =>
    Option.bind (q_it (fun x => fX7_span_L17 h v1 x.1 x.2 Z M) q_FU (r_2, (0 : Int32))) fun r_14 =>
    q_sm r_14 (fun e_16 =>
      some (0 : Int32)
    ) fun e_17 =>
    q_nm e_17 fun v2_18 =>
    some v2_18
  else
    some (-1 : Int32)
set_option maxHeartbeats 4000000 in
set_option maxRecDepth 100000 in
theorem bX7_span_0 {cells slots : Nat} (E : q_E p s m meth c cX7_span 5 RX7 (some .int) "span" D cA) (hR : 2 ≤ R.frames ∧ 46 ≤ R.locals) (hcc : cells ≤ R.cells ∧ slots ≤ R.slots) (h : Nat) (v1 : Int32) (Z : q_Z) (M : q_C) (H : Heap) (locs : List Loc) (ls : Array Slot) (r : Int32) (hf : fX7_span h v1 Z M = some r) (hH : q_Hh D cA z0 s Z M H locs) (hl : lv_has ls 5 [(0, .ref h), (1, .int v1)])  : W p l e R s m args below meth c H locs cells slots (MQ below (q_Q D cA z0 (some (.int r)) Z M) args s cells slots (fun q => z0 ≤ q)) (F0 m 0 ls []) := by
  have hx := E.1
  have hb := E.2.1
  have hown := E.2.2.2.1
  have hT := E.2.2.2.2.2.2.2.1
  unfold fX7_span at hf
  refine lv_aload_n hx hb dX7_span_0 rfl (lv_at hl 0 rfl) ?_
  obtain ⟨hk_1, hf⟩ := q_gdE hf
  have hk_1 := q_keq hk_1
  refine q_getI E hH (ci := 7) rfl 13 (by decide) kF_X7_50 (fun _ _ _ => rfl) hk_1 dX7_span_1 ?_
  refine lv_if_gt (tgt := 9) hx hb dX7_span_4 (by decide) (fun cc_21 => ?_) (fun cc_21 => ?_)
  · replace hf := q_ifT cc_21 hf
    clear cc_21
    refine lv_aload_n hx hb dX7_span_9 rfl (lv_at hl 0 rfl) ?_
    refine lv_iconst (v := 0) hx hb dX7_span_10 (by decide) ?_
    obtain ⟨r_2, hw_3, hf⟩ := q_biE hf
    refine q_cV (As := [.int (0 : Int32)]) (rest := []) (st1 := [.int r_2]) E hH (tX7_period l D cA z0 h (0 : Int32) Z M r_2 hw_3) mw_X7_period mi_X7_period (ci := 7) rfl ms_X7_period kM_X7_228 hk_1 hcc rfl rfl rfl hl.1 rfl rfl (Nat.le_of_ble_eq_true rfl) ⟨Nat.le_trans (by decide) hR.1, Nat.le_trans (by decide) hR.2⟩ dX7_span_11 (fun H locs hH => ?_)
    refine lv_istore_n (lv' := [(2, .int r_2), (0, .ref h), (1, .int v1)]) hx hb dX7_span_14 rfl hl (by decide) rfl (fun ls hl => ?_)
    refine lv_iconst (v := 0) hx hb dX7_span_15 (by decide) ?_
    refine lv_istore_n (lv' := [(3, .int (0 : Int32)), (2, .int r_2), (0, .ref h), (1, .int v1)]) hx hb dX7_span_16 rfl hl (by decide) rfl (fun ls hl => ?_)
    obtain ⟨r_14, hr_15, hf⟩ := q_biE hf
    refine lX7_span_17 E hR hcc h v1 Z M q_FU r_2 (0 : Int32) _ _ _ r_14 hr_15 hH (lv_sub hl [2, 3, 1, 0] rfl) (fun  H locs ls he_19 hH hl => ?_) (fun v2_18 H locs ls he_20 hH hl => ?_)
    · subst he_19
      replace hf := q_smL hf
      refine lv_iconst (v := 0) hx hb dX7_span_37 (by decide) ?_
      cases hf
      exact q_iret E hH dX7_span_38
    · subst he_20
      replace hf := q_smR hf
      replace hf := q_nmE (x := v2_18) rfl hf
      refine lv_iload_n hx hb dX7_span_77 rfl (lv_at hl 0 rfl) ?_
      cases hf
      exact q_iret E hH dX7_span_78
  · replace hf := q_ifF cc_21 hf
    clear cc_21
    refine lv_iconst (v := -1) hx hb dX7_span_7 (by decide) ?_
    cases hf
    exact q_iret E hH dX7_span_8
set_option maxRecDepth 100000 in
theorem tX7_span (l : Launch) (D : va_G) (cA : Nat → ClassId) (z0 : Nat) (h : Nat) (v1 : Int32) (Z : q_Z) (M : q_C) (r : Int32) (hf : fX7_span h v1 Z M = some r) : q_Ct l D cA z0 yX7_span cX7_span 5 (some .int) 2 46 [.ref h, .int v1] Z M (some (.int r)) Z M 0 0 := by
  (refine q_start (plainFor_of_name (by decide)) (Nat.le_of_ble_eq_true rfl) (fun p e s m below meth c H ls E hH hl => ?_); exact bX7_span_0 E ⟨Nat.le_refl _, Nat.le_refl _⟩ ⟨Nat.le_refl _, Nat.le_refl _⟩ h _ Z M H [] ls r hf hH hl)
def fX7_near_b32 (h : Nat) (Z : q_Z) (M : q_C) : Option (Int64 × q_C) :=
  some ((-1 : Int64), M)
set_option maxHeartbeats 4000000 in
set_option maxRecDepth 100000 in
theorem bX7_near_32 {cells slots : Nat} (E : q_E p s m meth c cX7_near 11 RX7 (some .long) "near" D cA) (hR : 3 ≤ R.frames ∧ 71 ≤ R.locals) (hcc : cells ≤ R.cells ∧ slots ≤ R.slots) (h : Nat) (Z : q_Z) (M : q_C) (H : Heap) (locs : List Loc) (ls : Array Slot) (r : Int64) (M' : q_C) (hf : fX7_near_b32 h Z M = some (r, M')) (hH : q_Hh D cA z0 s Z M H locs) (hl : lv_has ls 11 [])  : W p l e R s m args below meth c H locs cells slots (MQ below (q_Q D cA z0 (some (.long r)) Z M') args s cells slots (fun q => z0 ≤ q)) (F0 m 32 ls []) := by
  have hx := E.1
  have hb := E.2.1
  have hown := E.2.2.2.1
  have hT := E.2.2.2.2.2.2.2.1
  unfold fX7_near_b32 at hf
  refine lv_ldc2 hx hb hown (hT.1 _ _ kK_X7_220) dX7_near_32 ?_
  cases hf
  exact q_lret E hH dX7_near_35
def fX7_near_b157 (h : Nat) (v1 : Int32) (v3 : Int32) (v4 : Int64) (v6 : Int32) (v7 : Int32) (v8 : Int32) (Z : q_Z) (M : q_C) : Option ((Int64 × Int32 × Int32) ⊕ (Int64 × Int32)) :=
  q_nm (v8 + (1 : Int32)) fun v8_19 =>
  some (Sum.inl (v4, v6, v8_19))
set_option maxHeartbeats 4000000 in
set_option maxRecDepth 100000 in
theorem bX7_near_157 {cells slots : Nat} {Q : State → Prop} (E : q_E p s m meth c cX7_near 11 RX7 (some .long) "near" D cA) (hR : 3 ≤ R.frames ∧ 71 ≤ R.locals) (hcc : cells ≤ R.cells ∧ slots ≤ R.slots) (h : Nat) (v1 : Int32) (v3 : Int32) (v4 : Int64) (v6 : Int32) (v7 : Int32) (v8 : Int32) (Z : q_Z) (M : q_C) (H : Heap) (locs : List Loc) (ls : Array Slot) (o : (Int64 × Int32 × Int32) ⊕ (Int64 × Int32)) (hf : fX7_near_b157 h v1 v3 v4 v6 v7 v8 Z M = some o) (hH : q_Hh D cA z0 s Z M H locs) (hl : lv_has ls 11 [(0, .ref h), (1, .int v1), (3, .int v3), (4, .long v4), (6, .int v6), (7, .int v7), (8, .int v8)]) (kb : ∀ (w4 : Int64) (w6 : Int32) (w8 : Int32) (H : Heap) (locs : List Loc) (ls : Array Slot), Sum.inl (w4, w6, w8) = o → q_Hh D cA z0 s Z M H locs → lv_has ls 11 [(0, .ref h), (1, .int v1), (3, .int v3), (4, .long w4), (6, .int w6), (7, .int v7), (8, .int w8)] → W p l e R s m args below meth c H locs cells slots Q (F0 m 56 ls [])) (kx0 : ∀ (w4 : Int64) (w6 : Int32) (H : Heap) (locs : List Loc) (ls : Array Slot), Sum.inr (w4, w6) = o → q_Hh D cA z0 s Z M H locs → lv_has ls 11 [(0, .ref h), (1, .int v1), (3, .int v3), (4, .long w4), (6, .int w6), (7, .int v7)] → W p l e R s m args below meth c H locs cells slots Q (F0 m 163 ls [])) : W p l e R s m args below meth c H locs cells slots Q (F0 m 157 ls []) := by
  have hx := E.1
  have hb := E.2.1
  have hown := E.2.2.2.1
  have hT := E.2.2.2.2.2.2.2.1
  unfold fX7_near_b157 at hf
  obtain ⟨v8_19, hn_20⟩ : ∃ y : Int32, y = v8 + (1 : Int32) := ⟨_, rfl⟩
  replace hf := q_nmE hn_20 hf
  refine lv_iinc (v := v8_19) (lv' := [(8, .int v8_19), (0, .ref h), (1, .int v1), (3, .int v3), (4, .long v4), (6, .int v6), (7, .int v7)]) hx hb dX7_near_157 hl (k := 6) rfl (by rw [hn_20]; rfl) (by decide) rfl (fun ls hl => ?_)
  clear hn_20
  refine lv_goto (tgt := 56) hx hb dX7_near_160 (by decide) ?_
  cases hf
  exact kb v4 v6 v8_19 _ _ _ rfl hH (lv_sub hl [1, 2, 3, 4, 5, 6, 0] rfl)
def fX7_near_b149 (h : Nat) (v1 : Int32) (v3 : Int32) (v7 : Int32) (v8 : Int32) (v9 : Int64) (Z : q_Z) (M : q_C) : Option ((Int64 × Int32 × Int32) ⊕ (Int64 × Int32)) :=
  fX7_near_b157 h v1 v3 v9 v7 v7 v8 Z M
set_option maxHeartbeats 4000000 in
set_option maxRecDepth 100000 in
theorem bX7_near_149 {cells slots : Nat} {Q : State → Prop} (E : q_E p s m meth c cX7_near 11 RX7 (some .long) "near" D cA) (hR : 3 ≤ R.frames ∧ 71 ≤ R.locals) (hcc : cells ≤ R.cells ∧ slots ≤ R.slots) (h : Nat) (v1 : Int32) (v3 : Int32) (v7 : Int32) (v8 : Int32) (v9 : Int64) (Z : q_Z) (M : q_C) (H : Heap) (locs : List Loc) (ls : Array Slot) (o : (Int64 × Int32 × Int32) ⊕ (Int64 × Int32)) (hf : fX7_near_b149 h v1 v3 v7 v8 v9 Z M = some o) (hH : q_Hh D cA z0 s Z M H locs) (hl : lv_has ls 11 [(0, .ref h), (1, .int v1), (3, .int v3), (7, .int v7), (8, .int v8), (9, .long v9)]) (kb : ∀ (w4 : Int64) (w6 : Int32) (w8 : Int32) (H : Heap) (locs : List Loc) (ls : Array Slot), Sum.inl (w4, w6, w8) = o → q_Hh D cA z0 s Z M H locs → lv_has ls 11 [(0, .ref h), (1, .int v1), (3, .int v3), (4, .long w4), (6, .int w6), (7, .int v7), (8, .int w8)] → W p l e R s m args below meth c H locs cells slots Q (F0 m 56 ls [])) (kx0 : ∀ (w4 : Int64) (w6 : Int32) (H : Heap) (locs : List Loc) (ls : Array Slot), Sum.inr (w4, w6) = o → q_Hh D cA z0 s Z M H locs → lv_has ls 11 [(0, .ref h), (1, .int v1), (3, .int v3), (4, .long w4), (6, .int w6), (7, .int v7)] → W p l e R s m args below meth c H locs cells slots Q (F0 m 163 ls [])) : W p l e R s m args below meth c H locs cells slots Q (F0 m 149 ls []) := by
  have hx := E.1
  have hb := E.2.1
  have hown := E.2.2.2.1
  have hT := E.2.2.2.2.2.2.2.1
  unfold fX7_near_b149 at hf
  refine lv_lload hx hb dX7_near_149 (lv_at hl 5 rfl) ?_
  refine lv_lstore (lv' := [(4, .long v9), (0, .ref h), (1, .int v1), (3, .int v3), (7, .int v7), (8, .int v8), (9, .long v9)]) hx hb dX7_near_151 hl (by decide) rfl (fun ls hl => ?_)
  refine lv_iload hx hb dX7_near_153 (lv_at hl 4 rfl) ?_
  refine lv_istore (lv' := [(6, .int v7), (4, .long v9), (0, .ref h), (1, .int v1), (3, .int v3), (7, .int v7), (8, .int v8), (9, .long v9)]) hx hb dX7_near_155 hl (by decide) rfl (fun ls hl => ?_)
  exact bX7_near_157 E hR hcc h v1 v3 v9 v7 v7 v8 Z M _ _ _ _ hf hH (lv_sub hl [2, 3, 4, 1, 0, 5, 6] rfl) kb kx0
def fX7_near_b76 (h : Nat) (v1 : Int32) (v3 : Int32) (v4 : Int64) (v6 : Int32) (v7 : Int32) (v8 : Int32) (Z : q_Z) (M : q_C) : Option ((Int64 × Int32 × Int32) ⊕ (Int64 × Int32)) :=
  q_gd (zK Z h == 17) <|
  Option.bind (fX7_isThere h v8 v7 Z M) fun r_7 =>
  if r_7 = 0 then
    fX7_near_b157 h v1 v3 v4 v6 v7 v8 Z M
  else
    Option.bind (fX7_seenAt h v8 v7 (0 : Int32) Z M) fun r_9 =>
    Option.bind (fX7_seenAt h v8 v7 (0 : Int32) Z M) fun r_11 =>
    Option.bind (fX7_seenAt h v8 v7 (1 : Int32) Z M) fun r_13 =>
    Option.bind (fX7_seenAt h v8 v7 (1 : Int32) Z M) fun r_15 =>
    q_nm ((r_9 * r_11) + (r_13 * r_15)) fun v9_17 =>
    if v4 < (0 : Int64) then
      fX7_near_b149 h v1 v3 v7 v8 v9_17 Z M
    else
      if v9_17 < v4 then
        fX7_near_b149 h v1 v3 v7 v8 v9_17 Z M
      else
        fX7_near_b157 h v1 v3 v4 v6 v7 v8 Z M
set_option maxHeartbeats 4000000 in
set_option maxRecDepth 100000 in
theorem bX7_near_76 {cells slots : Nat} {Q : State → Prop} (E : q_E p s m meth c cX7_near 11 RX7 (some .long) "near" D cA) (hR : 3 ≤ R.frames ∧ 71 ≤ R.locals) (hcc : cells ≤ R.cells ∧ slots ≤ R.slots) (h : Nat) (v1 : Int32) (v3 : Int32) (v4 : Int64) (v6 : Int32) (v7 : Int32) (v8 : Int32) (Z : q_Z) (M : q_C) (H : Heap) (locs : List Loc) (ls : Array Slot) (o : (Int64 × Int32 × Int32) ⊕ (Int64 × Int32)) (hf : fX7_near_b76 h v1 v3 v4 v6 v7 v8 Z M = some o) (hH : q_Hh D cA z0 s Z M H locs) (hl : lv_has ls 11 [(0, .ref h), (1, .int v1), (3, .int v3), (4, .long v4), (6, .int v6), (7, .int v7), (8, .int v8)]) (kb : ∀ (w4 : Int64) (w6 : Int32) (w8 : Int32) (H : Heap) (locs : List Loc) (ls : Array Slot), Sum.inl (w4, w6, w8) = o → q_Hh D cA z0 s Z M H locs → lv_has ls 11 [(0, .ref h), (1, .int v1), (3, .int v3), (4, .long w4), (6, .int w6), (7, .int v7), (8, .int w8)] → W p l e R s m args below meth c H locs cells slots Q (F0 m 56 ls [])) (kx0 : ∀ (w4 : Int64) (w6 : Int32) (H : Heap) (locs : List Loc) (ls : Array Slot), Sum.inr (w4, w6) = o → q_Hh D cA z0 s Z M H locs → lv_has ls 11 [(0, .ref h), (1, .int v1), (3, .int v3), (4, .long w4), (6, .int w6), (7, .int v7)] → W p l e R s m args below meth c H locs cells slots Q (F0 m 163 ls [])) : W p l e R s m args below meth c H locs cells slots Q (F0 m 76 ls []) := by
  have hx := E.1
  have hb := E.2.1
  have hown := E.2.2.2.1
  have hT := E.2.2.2.2.2.2.2.1
  unfold fX7_near_b76 at hf
  refine lv_aload_n hx hb dX7_near_76 rfl (lv_at hl 0 rfl) ?_
  refine lv_iload hx hb dX7_near_77 (lv_at hl 6 rfl) ?_
  refine lv_iload hx hb dX7_near_79 (lv_at hl 5 rfl) ?_
  obtain ⟨hk_6, hf⟩ := q_gdE hf
  have hk_6 := q_keq hk_6
  obtain ⟨r_7, hw_8, hf⟩ := q_biE hf
  refine q_cV (As := [.int v8, .int v7]) (rest := []) (st1 := [.int r_7]) E hH (tX7_isThere l D cA z0 h v8 v7 Z M r_7 hw_8) mw_X7_isThere mi_X7_isThere (ci := 7) rfl ms_X7_isThere kM_X7_165 hk_6 hcc rfl rfl rfl hl.1 rfl rfl (Nat.le_of_ble_eq_true rfl) ⟨Nat.le_trans (by decide) hR.1, Nat.le_trans (by decide) hR.2⟩ dX7_near_81 (fun H locs hH => ?_)
  refine lv_if_ne (tgt := 90) hx hb dX7_near_84 (by decide) (fun cc_23 => ?_) (fun cc_23 => ?_)
  · replace hf := q_ifF cc_23 hf
    clear cc_23
    refine lv_aload_n hx hb dX7_near_90 rfl (lv_at hl 0 rfl) ?_
    refine lv_iload hx hb dX7_near_91 (lv_at hl 6 rfl) ?_
    refine lv_iload hx hb dX7_near_93 (lv_at hl 5 rfl) ?_
    refine lv_iconst (v := 0) hx hb dX7_near_95 (by decide) ?_
    obtain ⟨r_9, hw_10, hf⟩ := q_biE hf
    refine q_cV (As := [.int v8, .int v7, .int (0 : Int32)]) (rest := []) (st1 := [.long r_9]) E hH (tX7_seenAt l D cA z0 h v8 v7 (0 : Int32) Z M r_9 hw_10) mw_X7_seenAt mi_X7_seenAt (ci := 7) rfl ms_X7_seenAt kM_X7_199 hk_6 hcc rfl rfl rfl hl.1 rfl rfl (Nat.le_of_ble_eq_true rfl) ⟨Nat.le_trans (by decide) hR.1, Nat.le_trans (by decide) hR.2⟩ dX7_near_96 (fun H locs hH => ?_)
    refine lv_aload_n hx hb dX7_near_99 rfl (lv_at hl 0 rfl) ?_
    refine lv_iload hx hb dX7_near_100 (lv_at hl 6 rfl) ?_
    refine lv_iload hx hb dX7_near_102 (lv_at hl 5 rfl) ?_
    refine lv_iconst (v := 0) hx hb dX7_near_104 (by decide) ?_
    obtain ⟨r_11, hw_12, hf⟩ := q_biE hf
    refine q_cV (As := [.int v8, .int v7, .int (0 : Int32)]) (rest := [.long r_9]) (st1 := [.long r_11, .long r_9]) E hH (tX7_seenAt l D cA z0 h v8 v7 (0 : Int32) Z M r_11 hw_12) mw_X7_seenAt mi_X7_seenAt (ci := 7) rfl ms_X7_seenAt kM_X7_199 hk_6 hcc rfl rfl rfl hl.1 rfl rfl (Nat.le_of_ble_eq_true rfl) ⟨Nat.le_trans (by decide) hR.1, Nat.le_trans (by decide) hR.2⟩ dX7_near_105 (fun H locs hH => ?_)
    refine lv_lmul hx hb dX7_near_108 ?_
    refine lv_aload_n hx hb dX7_near_109 rfl (lv_at hl 0 rfl) ?_
    refine lv_iload hx hb dX7_near_110 (lv_at hl 6 rfl) ?_
    refine lv_iload hx hb dX7_near_112 (lv_at hl 5 rfl) ?_
    refine lv_iconst (v := 1) hx hb dX7_near_114 (by decide) ?_
    obtain ⟨r_13, hw_14, hf⟩ := q_biE hf
    refine q_cV (As := [.int v8, .int v7, .int (1 : Int32)]) (rest := [.long (r_9 * r_11)]) (st1 := [.long r_13, .long (r_9 * r_11)]) E hH (tX7_seenAt l D cA z0 h v8 v7 (1 : Int32) Z M r_13 hw_14) mw_X7_seenAt mi_X7_seenAt (ci := 7) rfl ms_X7_seenAt kM_X7_199 hk_6 hcc rfl rfl rfl hl.1 rfl rfl (Nat.le_of_ble_eq_true rfl) ⟨Nat.le_trans (by decide) hR.1, Nat.le_trans (by decide) hR.2⟩ dX7_near_115 (fun H locs hH => ?_)
    refine lv_aload_n hx hb dX7_near_118 rfl (lv_at hl 0 rfl) ?_
    refine lv_iload hx hb dX7_near_119 (lv_at hl 6 rfl) ?_
    refine lv_iload hx hb dX7_near_121 (lv_at hl 5 rfl) ?_
    refine lv_iconst (v := 1) hx hb dX7_near_123 (by decide) ?_
    obtain ⟨r_15, hw_16, hf⟩ := q_biE hf
    refine q_cV (As := [.int v8, .int v7, .int (1 : Int32)]) (rest := [.long r_13, .long (r_9 * r_11)]) (st1 := [.long r_15, .long r_13, .long (r_9 * r_11)]) E hH (tX7_seenAt l D cA z0 h v8 v7 (1 : Int32) Z M r_15 hw_16) mw_X7_seenAt mi_X7_seenAt (ci := 7) rfl ms_X7_seenAt kM_X7_199 hk_6 hcc rfl rfl rfl hl.1 rfl rfl (Nat.le_of_ble_eq_true rfl) ⟨Nat.le_trans (by decide) hR.1, Nat.le_trans (by decide) hR.2⟩ dX7_near_124 (fun H locs hH => ?_)
    refine lv_lmul hx hb dX7_near_127 ?_
    refine lv_ladd hx hb dX7_near_128 ?_
    refine lv_topl (fun v9_17 hn_18 => ?_)
    replace hf := q_nmE hn_18 hf
    clear hn_18
    refine lv_lstore (lv' := [(9, .long v9_17), (0, .ref h), (1, .int v1), (3, .int v3), (4, .long v4), (6, .int v6), (7, .int v7), (8, .int v8)]) hx hb dX7_near_129 hl (by decide) rfl (fun ls hl => ?_)
    refine lv_lload hx hb dX7_near_131 (lv_at hl 4 rfl) ?_
    refine lv_lconst (v := 0) hx hb dX7_near_133 (by decide) ?_
    refine q_lcmp_lt (pc1 := 135) (tgt := 149) hx hb dX7_near_134 rfl dX7_near_135 (by decide) (fun cc_22 => ?_) (fun cc_22 => ?_)
    · replace hf := q_ifT cc_22 hf
      clear cc_22
      exact bX7_near_149 E hR hcc h v1 v3 v7 v8 v9_17 Z M _ _ _ _ hf hH (lv_sub hl [1, 2, 3, 6, 7, 0] rfl) kb kx0
    · replace hf := q_ifF cc_22 hf
      clear cc_22
      refine lv_lload hx hb dX7_near_138 (lv_at hl 0 rfl) ?_
      refine lv_lload hx hb dX7_near_140 (lv_at hl 4 rfl) ?_
      refine q_lcmp_lt (pc1 := 143) (tgt := 149) hx hb dX7_near_142 rfl dX7_near_143 (by decide) (fun cc_21 => ?_) (fun cc_21 => ?_)
      · replace hf := q_ifT cc_21 hf
        clear cc_21
        exact bX7_near_149 E hR hcc h v1 v3 v7 v8 v9_17 Z M _ _ _ _ hf hH (lv_sub hl [1, 2, 3, 6, 7, 0] rfl) kb kx0
      · replace hf := q_ifF cc_21 hf
        clear cc_21
        refine lv_goto (tgt := 157) hx hb dX7_near_146 (by decide) ?_
        exact bX7_near_157 E hR hcc h v1 v3 v4 v6 v7 v8 Z M _ _ _ _ hf hH (lv_sub hl [1, 2, 3, 4, 5, 6, 7] rfl) kb kx0
  · replace hf := q_ifT cc_23 hf
    clear cc_23
    refine lv_goto (tgt := 157) hx hb dX7_near_87 (by decide) ?_
    exact bX7_near_157 E hR hcc h v1 v3 v4 v6 v7 v8 Z M _ _ _ _ hf hH (lv_sub hl [0, 1, 2, 3, 4, 5, 6] rfl) kb kx0
def fX7_near_L56 (h : Nat) (v1 : Int32) (v3 : Int32) (v7 : Int32) (v4 : Int64) (v6 : Int32) (v8 : Int32) (Z : q_Z) (M : q_C) : Option ((Int64 × Int32 × Int32) ⊕ (Int64 × Int32)) :=
  q_gd (zK Z h == 17) <|
  if gI M h 13 ≤ v8 then
    some (Sum.inr (v4, v6))
  else
    if v1 = (-1 : Int32) then
      fX7_near_b76 h v1 v3 v4 v6 v7 v8 Z M
    else
      if v8 = v1 then
        fX7_near_b76 h v1 v3 v4 v6 v7 v8 Z M
      else
        fX7_near_b157 h v1 v3 v4 v6 v7 v8 Z M
set_option maxHeartbeats 4000000 in
set_option maxRecDepth 100000 in
theorem lX7_near_56 {cells slots : Nat} {Q : State → Prop} (E : q_E p s m meth c cX7_near 11 RX7 (some .long) "near" D cA) (hR : 3 ≤ R.frames ∧ 71 ≤ R.locals) (hcc : cells ≤ R.cells ∧ slots ≤ R.slots)  (h : Nat) (v1 : Int32) (v3 : Int32) (v7 : Int32) (Z : q_Z) (M : q_C) : ∀ (n : Nat) (v4 : Int64) (v6 : Int32) (v8 : Int32) (H : Heap) (locs : List Loc) (ls : Array Slot) (r : (Int64 × Int32)), q_it (fun x => fX7_near_L56 h v1 v3 v7 x.1 x.2.1 x.2.2 Z M) n (v4, v6, v8) = some r → q_Hh D cA z0 s Z M H locs → lv_has ls 11 [(0, .ref h), (1, .int v1), (3, .int v3), (4, .long v4), (6, .int v6), (7, .int v7), (8, .int v8)] → (kx0 : ∀ (w4 : Int64) (w6 : Int32) (H : Heap) (locs : List Loc) (ls : Array Slot), (w4, w6) = r → q_Hh D cA z0 s Z M H locs → lv_has ls 11 [(0, .ref h), (1, .int v1), (3, .int v3), (4, .long w4), (6, .int w6), (7, .int v7)] → W p l e R s m args below meth c H locs cells slots Q (F0 m 163 ls [])) → W p l e R s m args below meth c H locs cells slots Q (F0 m 56 ls []) := by
  have hx := E.1
  have hb := E.2.1
  have hown := E.2.2.2.1
  have hT := E.2.2.2.2.2.2.2.1
  intro n
  induction n with
  | zero =>
    intro v4 v6 v8 H locs ls r hf
    cases hf
  | succ n ih =>
    intro v4 v6 v8 H locs ls r hf hH hl ky0
    obtain ⟨n1, o, hn, hf, ho⟩ := q_itE hf
    cases hn
    have hf : fX7_near_L56 h v1 v3 v7 v4 v6 v8 Z M = some o := hf
    have kb : ∀ (w4 : Int64) (w6 : Int32) (w8 : Int32) (H : Heap) (locs : List Loc) (ls : Array Slot), Sum.inl (w4, w6, w8) = o → q_Hh D cA z0 s Z M H locs → lv_has ls 11 [(0, .ref h), (1, .int v1), (3, .int v3), (4, .long w4), (6, .int w6), (7, .int v7), (8, .int w8)] → W p l e R s m args below meth c H locs cells slots Q (F0 m 56 ls []) := by
      intro w4 w6 w8 H locs ls e hH hl
      subst e
      exact ih w4 w6 w8 H locs ls r ho hH hl ky0
    have kx0 : ∀ (w4 : Int64) (w6 : Int32) (H : Heap) (locs : List Loc) (ls : Array Slot), Sum.inr (w4, w6) = o → q_Hh D cA z0 s Z M H locs → lv_has ls 11 [(0, .ref h), (1, .int v1), (3, .int v3), (4, .long w4), (6, .int w6), (7, .int v7)] → W p l e R s m args below meth c H locs cells slots Q (F0 m 163 ls []) := by
      intro w4 w6 H locs ls e hH hl
      subst e
      exact ky0 w4 w6 H locs ls ho hH hl
    unfold fX7_near_L56 at hf
    refine lv_iload hx hb dX7_near_56 (lv_at hl 6 rfl) ?_
    refine lv_aload_n hx hb dX7_near_58 rfl (lv_at hl 0 rfl) ?_
    obtain ⟨hk_5, hf⟩ := q_gdE hf
    have hk_5 := q_keq hk_5
    refine q_getI E hH (ci := 7) rfl 13 (by decide) kF_X7_50 (fun _ _ _ => rfl) hk_5 dX7_near_59 ?_
    refine lv_icmp_ge (tgt := 163) hx hb dX7_near_62 (by decide) (fun cc_26 => ?_) (fun cc_26 => ?_)
    · replace hf := q_ifT cc_26 hf
      clear cc_26
      cases hf
      exact kx0 v4 v6 _ _ _ rfl hH (lv_sub hl [0, 1, 2, 3, 4, 5] rfl)
    · replace hf := q_ifF cc_26 hf
      clear cc_26
      refine lv_iload_n hx hb dX7_near_65 rfl (lv_at hl 1 rfl) ?_
      refine lv_iconst (v := -1) hx hb dX7_near_66 (by decide) ?_
      refine lv_icmp_eq (tgt := 76) hx hb dX7_near_67 (by decide) (fun cc_25 => ?_) (fun cc_25 => ?_)
      · replace hf := q_ifT cc_25 hf
        clear cc_25
        exact bX7_near_76 E hR hcc h v1 v3 v4 v6 v7 v8 Z M _ _ _ _ hf hH (lv_sub hl [0, 1, 2, 3, 4, 5, 6] rfl) kb kx0
      · replace hf := q_ifF cc_25 hf
        clear cc_25
        refine lv_iload hx hb dX7_near_70 (lv_at hl 6 rfl) ?_
        refine lv_iload_n hx hb dX7_near_72 rfl (lv_at hl 1 rfl) ?_
        refine lv_icmp_ne (tgt := 157) hx hb dX7_near_73 (by decide) (fun cc_24 => ?_) (fun cc_24 => ?_)
        · replace hf := q_ifF cc_24 hf
          clear cc_24
          exact bX7_near_157 E hR hcc h v1 v3 v4 v6 v7 v8 Z M _ _ _ _ hf hH (lv_sub hl [0, 1, 2, 3, 4, 5, 6] rfl) kb kx0
        · replace hf := q_ifT cc_24 hf
          clear cc_24
          exact bX7_near_76 E hR hcc h v1 v3 v4 v6 v7 v8 Z M _ _ _ _ hf hH (lv_sub hl [0, 1, 2, 3, 4, 5, 6] rfl) kb kx0
def fX7_near_L47 (h : Nat) (v1 : Int32) (v3 : Int32) (v4 : Int64) (v6 : Int32) (v7 : Int32) (Z : q_Z) (M : q_C) : Option ((Int64 × Int32 × Int32) ⊕ (Int64 × Int32)) :=
  if v3 < v7 then
    some (Sum.inr (v4, v6))
  else
    Option.bind (q_it (fun x => fX7_near_L56 h v1 v3 v7 x.1 x.2.1 x.2.2 Z M) q_FU (v4, v6, (0 : Int32))) fun r_27 =>
    q_nm r_27.1 fun v4_29 =>
    q_nm r_27.2 fun v6_30 =>
    q_nm (v7 + (1 : Int32)) fun v7_31 =>
    some (Sum.inl (v4_29, v6_30, v7_31))
set_option maxHeartbeats 4000000 in
set_option maxRecDepth 100000 in
theorem lX7_near_47 {cells slots : Nat} {Q : State → Prop} (E : q_E p s m meth c cX7_near 11 RX7 (some .long) "near" D cA) (hR : 3 ≤ R.frames ∧ 71 ≤ R.locals) (hcc : cells ≤ R.cells ∧ slots ≤ R.slots)  (h : Nat) (v1 : Int32) (v3 : Int32) (Z : q_Z) (M : q_C) : ∀ (n : Nat) (v4 : Int64) (v6 : Int32) (v7 : Int32) (H : Heap) (locs : List Loc) (ls : Array Slot) (r : (Int64 × Int32)), q_it (fun x => fX7_near_L47 h v1 v3 x.1 x.2.1 x.2.2 Z M) n (v4, v6, v7) = some r → q_Hh D cA z0 s Z M H locs → lv_has ls 11 [(0, .ref h), (1, .int v1), (3, .int v3), (4, .long v4), (6, .int v6), (7, .int v7)] → (kx0 : ∀ (w4 : Int64) (w6 : Int32) (H : Heap) (locs : List Loc) (ls : Array Slot), (w4, w6) = r → q_Hh D cA z0 s Z M H locs → lv_has ls 11 [(0, .ref h), (4, .long w4), (6, .int w6)] → W p l e R s m args below meth c H locs cells slots Q (F0 m 169 ls [])) → W p l e R s m args below meth c H locs cells slots Q (F0 m 47 ls []) := by
  have hx := E.1
  have hb := E.2.1
  have hown := E.2.2.2.1
  have hT := E.2.2.2.2.2.2.2.1
  intro n
  induction n with
  | zero =>
    intro v4 v6 v7 H locs ls r hf
    cases hf
  | succ n ih =>
    intro v4 v6 v7 H locs ls r hf hH hl ky0
    obtain ⟨n1, o, hn, hf, ho⟩ := q_itE hf
    cases hn
    have hf : fX7_near_L47 h v1 v3 v4 v6 v7 Z M = some o := hf
    have kb : ∀ (w4 : Int64) (w6 : Int32) (w7 : Int32) (H : Heap) (locs : List Loc) (ls : Array Slot), Sum.inl (w4, w6, w7) = o → q_Hh D cA z0 s Z M H locs → lv_has ls 11 [(0, .ref h), (1, .int v1), (3, .int v3), (4, .long w4), (6, .int w6), (7, .int w7)] → W p l e R s m args below meth c H locs cells slots Q (F0 m 47 ls []) := by
      intro w4 w6 w7 H locs ls e hH hl
      subst e
      exact ih w4 w6 w7 H locs ls r ho hH hl ky0
    have kx0 : ∀ (w4 : Int64) (w6 : Int32) (H : Heap) (locs : List Loc) (ls : Array Slot), Sum.inr (w4, w6) = o → q_Hh D cA z0 s Z M H locs → lv_has ls 11 [(0, .ref h), (4, .long w4), (6, .int w6)] → W p l e R s m args below meth c H locs cells slots Q (F0 m 169 ls []) := by
      intro w4 w6 H locs ls e hH hl
      subst e
      exact ky0 w4 w6 H locs ls ho hH hl
    unfold fX7_near_L47 at hf
    refine lv_iload hx hb dX7_near_47 (lv_at hl 5 rfl) ?_
    refine lv_iload_n hx hb dX7_near_49 rfl (lv_at hl 2 rfl) ?_
    refine lv_icmp_gt (tgt := 169) hx hb dX7_near_50 (by decide) (fun cc_34 => ?_) (fun cc_34 => ?_)
    · replace hf := q_ifT cc_34 hf
      clear cc_34
      cases hf
      exact kx0 v4 v6 _ _ _ rfl hH (lv_sub hl [0, 3, 4] rfl)
    · replace hf := q_ifF cc_34 hf
      clear cc_34
      refine lv_iconst (v := 0) hx hb dX7_near_53 (by decide) ?_
      refine lv_istore (lv' := [(8, .int (0 : Int32)), (0, .ref h), (1, .int v1), (3, .int v3), (4, .long v4), (6, .int v6), (7, .int v7)]) hx hb dX7_near_54 hl (by decide) rfl (fun ls hl => ?_)
      obtain ⟨r_27, hr_28, hf⟩ := q_biE hf
      refine lX7_near_56 E hR hcc h v1 v3 v7 Z M q_FU v4 v6 (0 : Int32) _ _ _ r_27 hr_28 hH (lv_sub hl [1, 2, 3, 4, 5, 6, 0] rfl) (fun v4_29 v6_30 H locs ls he_33 hH hl => ?_)
      · subst he_33
        replace hf := q_nmE (x := v4_29) rfl hf
        replace hf := q_nmE (x := v6_30) rfl hf
        obtain ⟨v7_31, hn_32⟩ : ∃ y : Int32, y = v7 + (1 : Int32) := ⟨_, rfl⟩
        replace hf := q_nmE hn_32 hf
        refine lv_iinc (v := v7_31) (lv' := [(7, .int v7_31), (0, .ref h), (1, .int v1), (3, .int v3), (4, .long v4_29), (6, .int v6_30)]) hx hb dX7_near_163 hl (k := 5) rfl (by rw [hn_32]; rfl) (by decide) rfl (fun ls hl => ?_)
        clear hn_32
        refine lv_goto (tgt := 47) hx hb dX7_near_166 (by decide) ?_
        cases hf
        exact kb v4_29 v6_30 v7_31 _ _ _ rfl hH (lv_sub hl [1, 2, 3, 4, 5, 0] rfl)
def fX7_near_b182 (h : Nat) (v4 : Int64) (Z : q_Z) (M : q_C) : Option (Int64 × q_C) :=
  some (v4, M)
set_option maxHeartbeats 4000000 in
set_option maxRecDepth 100000 in
theorem bX7_near_182 {cells slots : Nat} (E : q_E p s m meth c cX7_near 11 RX7 (some .long) "near" D cA) (hR : 3 ≤ R.frames ∧ 71 ≤ R.locals) (hcc : cells ≤ R.cells ∧ slots ≤ R.slots) (h : Nat) (v4 : Int64) (Z : q_Z) (M : q_C) (H : Heap) (locs : List Loc) (ls : Array Slot) (r : Int64) (M' : q_C) (hf : fX7_near_b182 h v4 Z M = some (r, M')) (hH : q_Hh D cA z0 s Z M H locs) (hl : lv_has ls 11 [(4, .long v4)])  : W p l e R s m args below meth c H locs cells slots (MQ below (q_Q D cA z0 (some (.long r)) Z M') args s cells slots (fun q => z0 ≤ q)) (F0 m 182 ls []) := by
  have hx := E.1
  have hb := E.2.1
  have hown := E.2.2.2.1
  have hT := E.2.2.2.2.2.2.2.1
  unfold fX7_near_b182 at hf
  refine lv_lload hx hb dX7_near_182 (lv_at hl 0 rfl) ?_
  cases hf
  exact q_lret E hH dX7_near_184
def fX7_near_b13 (h : Nat) (v1 : Int32) (v2 : Int32) (v3 : Int32) (Z : q_Z) (M : q_C) : Option (Int64 × q_C) :=
  Option.bind (fX7_isStep v2) fun r_1 =>
  if r_1 = 0 then
    fX7_near_b32 h Z M
  else
    Option.bind (fX7_isStep v3) fun r_3 =>
    if r_3 = 0 then
      fX7_near_b32 h Z M
    else
      if v2 ≤ v3 then
        Option.bind (q_it (fun x => fX7_near_L47 h v1 v3 x.1 x.2.1 x.2.2 Z M) q_FU ((-1 : Int64), (0 : Int32), v2)) fun r_35 =>
        q_nm r_35.1 fun v4_37 =>
        q_nm r_35.2 fun v6_38 =>
        if v4_37 < (0 : Int64) then
          fX7_near_b182 h v4_37 Z M
        else
          q_gd (zK Z h == 17) <|
          q_nm (sI M h 21 v6_38) fun M_40 =>
          fX7_near_b182 h v4_37 Z M_40
      else
        fX7_near_b32 h Z M
set_option maxHeartbeats 4000000 in
set_option maxRecDepth 100000 in
theorem bX7_near_13 {cells slots : Nat} (E : q_E p s m meth c cX7_near 11 RX7 (some .long) "near" D cA) (hR : 3 ≤ R.frames ∧ 71 ≤ R.locals) (hcc : cells ≤ R.cells ∧ slots ≤ R.slots) (h : Nat) (v1 : Int32) (v2 : Int32) (v3 : Int32) (Z : q_Z) (M : q_C) (H : Heap) (locs : List Loc) (ls : Array Slot) (r : Int64) (M' : q_C) (hf : fX7_near_b13 h v1 v2 v3 Z M = some (r, M')) (hH : q_Hh D cA z0 s Z M H locs) (hl : lv_has ls 11 [(0, .ref h), (1, .int v1), (2, .int v2), (3, .int v3)])  : W p l e R s m args below meth c H locs cells slots (MQ below (q_Q D cA z0 (some (.long r)) Z M') args s cells slots (fun q => z0 ≤ q)) (F0 m 13 ls []) := by
  have hx := E.1
  have hb := E.2.1
  have hown := E.2.2.2.1
  have hT := E.2.2.2.2.2.2.2.1
  unfold fX7_near_b13 at hf
  refine lv_iload_n hx hb dX7_near_13 rfl (lv_at hl 2 rfl) ?_
  obtain ⟨r_1, hw_2, hf⟩ := q_biE hf
  refine q_cS (As := [.int v2]) (rest := []) (st1 := [.int r_1]) E hH (tX7_isStep l D cA z0 Z M v2 r_1 hw_2) mw_X7_isStep mi_X7_isStep kM_X7_110 hcc rfl rfl rfl hl.1 rfl rfl (Nat.le_of_ble_eq_true rfl) ⟨Nat.le_trans (by decide) hR.1, Nat.le_trans (by decide) hR.2⟩ dX7_near_14 (fun H locs hH => ?_)
  refine lv_if_eq (tgt := 32) hx hb dX7_near_17 (by decide) (fun cc_45 => ?_) (fun cc_45 => ?_)
  · replace hf := q_ifT cc_45 hf
    clear cc_45
    exact bX7_near_32 E hR hcc h Z M _ _ _ _ _ hf hH (lv_sub hl [] rfl)
  · replace hf := q_ifF cc_45 hf
    clear cc_45
    refine lv_iload_n hx hb dX7_near_20 rfl (lv_at hl 3 rfl) ?_
    obtain ⟨r_3, hw_4, hf⟩ := q_biE hf
    refine q_cS (As := [.int v3]) (rest := []) (st1 := [.int r_3]) E hH (tX7_isStep l D cA z0 Z M v3 r_3 hw_4) mw_X7_isStep mi_X7_isStep kM_X7_110 hcc rfl rfl rfl hl.1 rfl rfl (Nat.le_of_ble_eq_true rfl) ⟨Nat.le_trans (by decide) hR.1, Nat.le_trans (by decide) hR.2⟩ dX7_near_21 (fun H locs hH => ?_)
    refine lv_if_eq (tgt := 32) hx hb dX7_near_24 (by decide) (fun cc_44 => ?_) (fun cc_44 => ?_)
    · replace hf := q_ifT cc_44 hf
      clear cc_44
      exact bX7_near_32 E hR hcc h Z M _ _ _ _ _ hf hH (lv_sub hl [] rfl)
    · replace hf := q_ifF cc_44 hf
      clear cc_44
      refine lv_iload_n hx hb dX7_near_27 rfl (lv_at hl 2 rfl) ?_
      refine lv_iload_n hx hb dX7_near_28 rfl (lv_at hl 3 rfl) ?_
      refine lv_icmp_le (tgt := 36) hx hb dX7_near_29 (by decide) (fun cc_43 => ?_) (fun cc_43 => ?_)
      · replace hf := q_ifT cc_43 hf
        clear cc_43
        refine lv_ldc2 hx hb hown (hT.1 _ _ kK_X7_220) dX7_near_36 ?_
        refine lv_lstore (lv' := [(4, .long (-1 : Int64)), (0, .ref h), (1, .int v1), (2, .int v2), (3, .int v3)]) hx hb dX7_near_39 hl (by decide) rfl (fun ls hl => ?_)
        refine lv_iconst (v := 0) hx hb dX7_near_41 (by decide) ?_
        refine lv_istore (lv' := [(6, .int (0 : Int32)), (4, .long (-1 : Int64)), (0, .ref h), (1, .int v1), (2, .int v2), (3, .int v3)]) hx hb dX7_near_42 hl (by decide) rfl (fun ls hl => ?_)
        refine lv_iload_n hx hb dX7_near_44 rfl (lv_at hl 4 rfl) ?_
        refine lv_istore (lv' := [(7, .int v2), (6, .int (0 : Int32)), (4, .long (-1 : Int64)), (0, .ref h), (1, .int v1), (2, .int v2), (3, .int v3)]) hx hb dX7_near_45 hl (by decide) rfl (fun ls hl => ?_)
        obtain ⟨r_35, hr_36, hf⟩ := q_biE hf
        refine lX7_near_47 E hR hcc h v1 v3 Z M q_FU (-1 : Int64) (0 : Int32) v2 _ _ _ r_35 hr_36 hH (lv_sub hl [3, 4, 6, 2, 1, 0] rfl) (fun v4_37 v6_38 H locs ls he_42 hH hl => ?_)
        · subst he_42
          replace hf := q_nmE (x := v4_37) rfl hf
          replace hf := q_nmE (x := v6_38) rfl hf
          refine lv_lload hx hb dX7_near_169 (lv_at hl 1 rfl) ?_
          refine lv_lconst (v := 0) hx hb dX7_near_171 (by decide) ?_
          refine q_lcmp_lt (pc1 := 173) (tgt := 182) hx hb dX7_near_172 rfl dX7_near_173 (by decide) (fun cc_41 => ?_) (fun cc_41 => ?_)
          · replace hf := q_ifT cc_41 hf
            clear cc_41
            exact bX7_near_182 E hR hcc h v4_37 Z M _ _ _ _ _ hf hH (lv_sub hl [1] rfl)
          · replace hf := q_ifF cc_41 hf
            clear cc_41
            refine lv_aload_n hx hb dX7_near_176 rfl (lv_at hl 0 rfl) ?_
            refine lv_iload hx hb dX7_near_177 (lv_at hl 2 rfl) ?_
            obtain ⟨hk_39, hf⟩ := q_gdE hf
            have hk_39 := q_keq hk_39
            refine q_putI E hH (ci := 7) rfl 21 (by decide) kF_X7_76 rfl (fun _ _ _ => rfl) (x := v6_38) hk_39 rfl rfl dX7_near_179 hf (fun M_40 H locs hH hf => ?_)
            exact bX7_near_182 E hR hcc h v4_37 Z M_40 _ _ _ _ _ hf hH (lv_sub hl [1] rfl)
      · replace hf := q_ifF cc_43 hf
        clear cc_43
        exact bX7_near_32 E hR hcc h Z M _ _ _ _ _ hf hH (lv_sub hl [] rfl)
def fX7_near (h : Nat) (v1 : Int32) (v2 : Int32) (v3 : Int32) (Z : q_Z) (M : q_C) : Option (Int64 × q_C) :=
  if v1 = (-1 : Int32) then
    fX7_near_b13 h v1 v2 v3 Z M
  else
    q_gd (zK Z h == 17) <|
    Option.bind (fX7_isWay h v1 Z M) fun r_47 =>
    if r_47 = 0 then
      fX7_near_b32 h Z M
    else
      fX7_near_b13 h v1 v2 v3 Z M
set_option maxHeartbeats 4000000 in
set_option maxRecDepth 100000 in
theorem bX7_near_0 {cells slots : Nat} (E : q_E p s m meth c cX7_near 11 RX7 (some .long) "near" D cA) (hR : 3 ≤ R.frames ∧ 71 ≤ R.locals) (hcc : cells ≤ R.cells ∧ slots ≤ R.slots) (h : Nat) (v1 : Int32) (v2 : Int32) (v3 : Int32) (Z : q_Z) (M : q_C) (H : Heap) (locs : List Loc) (ls : Array Slot) (r : Int64) (M' : q_C) (hf : fX7_near h v1 v2 v3 Z M = some (r, M')) (hH : q_Hh D cA z0 s Z M H locs) (hl : lv_has ls 11 [(0, .ref h), (1, .int v1), (2, .int v2), (3, .int v3)])  : W p l e R s m args below meth c H locs cells slots (MQ below (q_Q D cA z0 (some (.long r)) Z M') args s cells slots (fun q => z0 ≤ q)) (F0 m 0 ls []) := by
  have hx := E.1
  have hb := E.2.1
  have hown := E.2.2.2.1
  have hT := E.2.2.2.2.2.2.2.1
  unfold fX7_near at hf
  refine lv_iload_n hx hb dX7_near_0 rfl (lv_at hl 1 rfl) ?_
  refine lv_iconst (v := -1) hx hb dX7_near_1 (by decide) ?_
  refine lv_icmp_eq (tgt := 13) hx hb dX7_near_2 (by decide) (fun cc_50 => ?_) (fun cc_50 => ?_)
  · replace hf := q_ifT cc_50 hf
    clear cc_50
    exact bX7_near_13 E hR hcc h v1 v2 v3 Z M _ _ _ _ _ hf hH (lv_sub hl [0, 1, 2, 3] rfl)
  · replace hf := q_ifF cc_50 hf
    clear cc_50
    refine lv_aload_n hx hb dX7_near_5 rfl (lv_at hl 0 rfl) ?_
    refine lv_iload_n hx hb dX7_near_6 rfl (lv_at hl 1 rfl) ?_
    obtain ⟨hk_46, hf⟩ := q_gdE hf
    have hk_46 := q_keq hk_46
    obtain ⟨r_47, hw_48, hf⟩ := q_biE hf
    refine q_cV (As := [.int v1]) (rest := []) (st1 := [.int r_47]) E hH (tX7_isWay l D cA z0 h v1 Z M r_47 hw_48) mw_X7_isWay mi_X7_isWay (ci := 7) rfl ms_X7_isWay kM_X7_184 hk_46 hcc rfl rfl rfl hl.1 rfl rfl (Nat.le_of_ble_eq_true rfl) ⟨Nat.le_trans (by decide) hR.1, Nat.le_trans (by decide) hR.2⟩ dX7_near_7 (fun H locs hH => ?_)
    refine lv_if_eq (tgt := 32) hx hb dX7_near_10 (by decide) (fun cc_49 => ?_) (fun cc_49 => ?_)
    · replace hf := q_ifT cc_49 hf
      clear cc_49
      exact bX7_near_32 E hR hcc h Z M _ _ _ _ _ hf hH (lv_sub hl [] rfl)
    · replace hf := q_ifF cc_49 hf
      clear cc_49
      exact bX7_near_13 E hR hcc h v1 v2 v3 Z M _ _ _ _ _ hf hH (lv_sub hl [0, 1, 2, 3] rfl)
set_option maxRecDepth 100000 in
theorem tX7_near (l : Launch) (D : va_G) (cA : Nat → ClassId) (z0 : Nat) (h : Nat) (v1 : Int32) (v2 : Int32) (v3 : Int32) (Z : q_Z) (M : q_C) (r : Int64) (M' : q_C) (hf : fX7_near h v1 v2 v3 Z M = some (r, M')) : q_Ct l D cA z0 yX7_near cX7_near 11 (some .long) 3 71 [.ref h, .int v1, .int v2, .int v3] Z M (some (.long r)) Z M' 0 0 := by
  (refine q_start (plainFor_of_name (by decide)) (Nat.le_of_ble_eq_true rfl) (fun p e s m below meth c H ls E hH hl => ?_); exact bX7_near_0 E ⟨Nat.le_refl _, Nat.le_refl _⟩ ⟨Nat.le_refl _, Nat.le_refl _⟩ h _ _ _ Z M H [] ls r M' hf hH hl)
def fX7_nearest (h : Nat) (Z : q_Z) (M : q_C) : Option (Int32) :=
  q_gd (zK Z h == 17) <|
  some (gI M h 21)
set_option maxHeartbeats 4000000 in
set_option maxRecDepth 100000 in
theorem bX7_nearest_0 {cells slots : Nat} (E : q_E p s m meth c cX7_nearest 1 RX7 (some .int) "nearest" D cA) (hR : 0 ≤ R.frames ∧ 0 ≤ R.locals) (hcc : cells ≤ R.cells ∧ slots ≤ R.slots) (h : Nat) (Z : q_Z) (M : q_C) (H : Heap) (locs : List Loc) (ls : Array Slot) (r : Int32) (hf : fX7_nearest h Z M = some r) (hH : q_Hh D cA z0 s Z M H locs) (hl : lv_has ls 1 [(0, .ref h)])  : W p l e R s m args below meth c H locs cells slots (MQ below (q_Q D cA z0 (some (.int r)) Z M) args s cells slots (fun q => z0 ≤ q)) (F0 m 0 ls []) := by
  have hx := E.1
  have hb := E.2.1
  have hown := E.2.2.2.1
  have hT := E.2.2.2.2.2.2.2.1
  unfold fX7_nearest at hf
  refine lv_aload_n hx hb dX7_nearest_0 rfl (lv_at hl 0 rfl) ?_
  obtain ⟨hk_1, hf⟩ := q_gdE hf
  have hk_1 := q_keq hk_1
  refine q_getI E hH (ci := 7) rfl 21 (by decide) kF_X7_76 (fun _ _ _ => rfl) hk_1 dX7_nearest_1 ?_
  cases hf
  exact q_iret E hH dX7_nearest_4
set_option maxRecDepth 100000 in
theorem tX7_nearest (l : Launch) (D : va_G) (cA : Nat → ClassId) (z0 : Nat) (h : Nat) (Z : q_Z) (M : q_C) (r : Int32) (hf : fX7_nearest h Z M = some r) : q_Ct l D cA z0 yX7_nearest cX7_nearest 1 (some .int) 0 0 [.ref h] Z M (some (.int r)) Z M 0 0 := by
  (refine q_start (plainFor_of_name (by decide)) (Nat.le_of_ble_eq_true rfl) (fun p e s m below meth c H ls E hH hl => ?_); exact bX7_nearest_0 E ⟨Nat.le_refl _, Nat.le_refl _⟩ ⟨Nat.le_refl _, Nat.le_refl _⟩ h Z M H [] ls r hf hH hl)
def fX7_all (h : Nat) (v1 : Int32) (Z : q_Z) (M : q_C) : Option (Int32) :=
  if v1 = 0 then
    q_gd (zK Z h == 17) <|
    some (gI M h 6)
  else
  if v1 = 1 then
    q_gd (zK Z h == 17) <|
    Option.bind (gR M h 0) fun a_3 =>
    q_gd (q_ok Z a_3 1 (0 : Int32)) <|
    some (gI M a_3 (0 : Int32).toNatClampNeg)
  else
  if v1 = 2 then
    q_gd (zK Z h == 17) <|
    Option.bind (gR M h 0) fun a_7 =>
    q_gd (q_ok Z a_7 1 (1 : Int32)) <|
    some (gI M a_7 (1 : Int32).toNatClampNeg)
  else
  if v1 = 3 then
    q_gd (zK Z h == 17) <|
    some (gI M h 13)
  else
  some (-1 : Int32)
set_option maxHeartbeats 4000000 in
set_option maxRecDepth 100000 in
theorem bX7_all_0 {cells slots : Nat} (E : q_E p s m meth c cX7_all 2 RX7 (some .int) "all" D cA) (hR : 0 ≤ R.frames ∧ 0 ≤ R.locals) (hcc : cells ≤ R.cells ∧ slots ≤ R.slots) (h : Nat) (v1 : Int32) (Z : q_Z) (M : q_C) (H : Heap) (locs : List Loc) (ls : Array Slot) (r : Int32) (hf : fX7_all h v1 Z M = some r) (hH : q_Hh D cA z0 s Z M H locs) (hl : lv_has ls 2 [(0, .ref h), (1, .int v1)])  : W p l e R s m args below meth c H locs cells slots (MQ below (q_Q D cA z0 (some (.int r)) Z M) args s cells slots (fun q => z0 ≤ q)) (F0 m 0 ls []) := by
  have hx := E.1
  have hb := E.2.1
  have hown := E.2.2.2.1
  have hT := E.2.2.2.2.2.2.2.1
  unfold fX7_all at hf
  refine lv_iload_n hx hb dX7_all_0 rfl (lv_at hl 1 rfl) ?_
  by_cases cs_11 : v1 = 0
  · replace hf := q_ifT cs_11 hf
    refine q_tin (tgt := 32) 0 hx hb dX7_all_1 cs_11 (by decide) (by decide) rfl (by decide) ?_
    refine lv_aload_n hx hb dX7_all_32 rfl (lv_at hl 0 rfl) ?_
    obtain ⟨hk_1, hf⟩ := q_gdE hf
    have hk_1 := q_keq hk_1
    refine q_getI E hH (ci := 7) rfl 6 (by decide) kF_X7_28 (fun _ _ _ => rfl) hk_1 dX7_all_33 ?_
    cases hf
    exact q_iret E hH dX7_all_36
  replace hf := q_ifF cs_11 hf
  by_cases cs_12 : v1 = 1
  · replace hf := q_ifT cs_12 hf
    refine q_tin (tgt := 37) 1 hx hb dX7_all_1 cs_12 (by decide) (by decide) rfl (by decide) ?_
    refine lv_aload_n hx hb dX7_all_37 rfl (lv_at hl 0 rfl) ?_
    obtain ⟨hk_2, hf⟩ := q_gdE hf
    have hk_2 := q_keq hk_2
    refine q_getR E hH (ci := 7) rfl 0 (by decide) kF_X7_7 (fun _ _ _ => rfl) hk_2 dX7_all_38 ?_
    obtain ⟨a_3, he_4, hf⟩ := q_biE hf
    rw [he_4]
    refine lv_iconst (v := 0) hx hb dX7_all_41 (by decide) ?_
    obtain ⟨hz_5, hf⟩ := q_gdE hf
    refine q_iaload E hH hz_5 dX7_all_42 ?_
    cases hf
    exact q_iret E hH dX7_all_43
  replace hf := q_ifF cs_12 hf
  by_cases cs_13 : v1 = 2
  · replace hf := q_ifT cs_13 hf
    refine q_tin (tgt := 44) 2 hx hb dX7_all_1 cs_13 (by decide) (by decide) rfl (by decide) ?_
    refine lv_aload_n hx hb dX7_all_44 rfl (lv_at hl 0 rfl) ?_
    obtain ⟨hk_6, hf⟩ := q_gdE hf
    have hk_6 := q_keq hk_6
    refine q_getR E hH (ci := 7) rfl 0 (by decide) kF_X7_7 (fun _ _ _ => rfl) hk_6 dX7_all_45 ?_
    obtain ⟨a_7, he_8, hf⟩ := q_biE hf
    rw [he_8]
    refine lv_iconst (v := 1) hx hb dX7_all_48 (by decide) ?_
    obtain ⟨hz_9, hf⟩ := q_gdE hf
    refine q_iaload E hH hz_9 dX7_all_49 ?_
    cases hf
    exact q_iret E hH dX7_all_50
  replace hf := q_ifF cs_13 hf
  by_cases cs_14 : v1 = 3
  · replace hf := q_ifT cs_14 hf
    refine q_tin (tgt := 51) 3 hx hb dX7_all_1 cs_14 (by decide) (by decide) rfl (by decide) ?_
    refine lv_aload_n hx hb dX7_all_51 rfl (lv_at hl 0 rfl) ?_
    obtain ⟨hk_10, hf⟩ := q_gdE hf
    have hk_10 := q_keq hk_10
    refine q_getI E hH (ci := 7) rfl 13 (by decide) kF_X7_50 (fun _ _ _ => rfl) hk_10 dX7_all_52 ?_
    cases hf
    exact q_iret E hH dX7_all_55
  replace hf := q_ifF cs_14 hf
  refine q_tout (tgt := 56) 4 hx hb dX7_all_1 rfl (fun k hk => match k, hk with | 0, _ => cs_11 | 1, _ => cs_12 | 2, _ => cs_13 | 3, _ => cs_14 | k + 4, hk => absurd hk (by omega)) (by decide) ?_
  refine lv_iconst (v := -1) hx hb dX7_all_56 (by decide) ?_
  cases hf
  exact q_iret E hH dX7_all_57
set_option maxRecDepth 100000 in
theorem tX7_all (l : Launch) (D : va_G) (cA : Nat → ClassId) (z0 : Nat) (h : Nat) (v1 : Int32) (Z : q_Z) (M : q_C) (r : Int32) (hf : fX7_all h v1 Z M = some r) : q_Ct l D cA z0 yX7_all cX7_all 2 (some .int) 0 0 [.ref h, .int v1] Z M (some (.int r)) Z M 0 0 := by
  (refine q_start (plainFor_of_name (by decide)) (Nat.le_of_ble_eq_true rfl) (fun p e s m below meth c H ls E hH hl => ?_); exact bX7_all_0 E ⟨Nat.le_refl _, Nat.le_refl _⟩ ⟨Nat.le_refl _, Nat.le_refl _⟩ h _ Z M H [] ls r hf hH hl)
end Q235
