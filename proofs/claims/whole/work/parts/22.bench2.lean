section Q222
variable {p : Program} {l : Launch} {e : Env} {R : Room} {s : State} {m : MethodId} {args : Array Value} {below : List Frame} {meth : Method} {c : Code} {D : va_G} {cA : Nat → ClassId} {z0 : Nat}
def fX6_fitsAllBut_b102 (h : Nat) (v1 : Int32) (v2 : Int32) (Z : q_Z) (M : q_C) : Option ((Int32 × q_C) ⊕ (q_C ⊕ q_C)) :=
  q_nm (v2 + (1 : Int32)) fun v2_14 =>
  some (Sum.inl (v2_14, M))
set_option maxHeartbeats 4000000 in
set_option maxRecDepth 100000 in
theorem bX6_fitsAllBut_102 {cells slots : Nat} {Q : State → Prop} (E : q_E p s m meth c cX6_fitsAllBut 4 RX6 (some .boolean) "fitsAllBut" D cA) (hR : 4 ≤ R.frames ∧ 104 ≤ R.locals) (hcc : cells ≤ R.cells ∧ slots ≤ R.slots) (h : Nat) (v1 : Int32) (v2 : Int32) (Z : q_Z) (M : q_C) (H : Heap) (locs : List Loc) (ls : Array Slot) (o : (Int32 × q_C) ⊕ (q_C ⊕ q_C)) (hf : fX6_fitsAllBut_b102 h v1 v2 Z M = some o) (hH : q_Hh D cA z0 s Z M H locs) (hl : lv_has ls 4 [(0, .ref h), (1, .int v1), (2, .int v2)]) (kb : ∀ (w2 : Int32) (M1 : q_C) (H : Heap) (locs : List Loc) (ls : Array Slot), Sum.inl (w2, M1) = o → q_Hh D cA z0 s Z M1 H locs → lv_has ls 4 [(0, .ref h), (1, .int v1), (2, .int w2)] → W p l e R s m args below meth c H locs cells slots Q (F0 m 13 ls [])) (kx0 : ∀ (M1 : q_C) (H : Heap) (locs : List Loc) (ls : Array Slot), Sum.inr (Sum.inl M1) = o → q_Hh D cA z0 s Z M1 H locs → lv_has ls 4 [] → W p l e R s m args below meth c H locs cells slots Q (F0 m 100 ls [])) (kx1 : ∀ (M1 : q_C) (H : Heap) (locs : List Loc) (ls : Array Slot), Sum.inr (Sum.inr M1) = o → q_Hh D cA z0 s Z M1 H locs → lv_has ls 4 [] → W p l e R s m args below meth c H locs cells slots Q (F0 m 108 ls [])) : W p l e R s m args below meth c H locs cells slots Q (F0 m 102 ls []) := by
  have hx := E.1
  have hb := E.2.1
  have hown := E.2.2.2.1
  have hT := E.2.2.2.2.2.2.2.1
  unfold fX6_fitsAllBut_b102 at hf
  obtain ⟨v2_14, hn_15⟩ : ∃ y : Int32, y = v2 + (1 : Int32) := ⟨_, rfl⟩
  replace hf := q_nmE hn_15 hf
  refine lv_iinc (v := v2_14) (lv' := [(2, .int v2_14), (0, .ref h), (1, .int v1)]) hx hb dX6_fitsAllBut_102 hl (k := 2) rfl (by rw [hn_15]; rfl) (by decide) rfl (fun ls hl => ?_)
  clear hn_15
  refine lv_goto (tgt := 13) hx hb dX6_fitsAllBut_105 (by decide) ?_
  cases hf
  exact kb v2_14 M _ _ _ rfl hH (lv_sub hl [1, 2, 0] rfl)
def fX6_fitsAllBut_L13 (h : Nat) (v1 : Int32) (v2 : Int32) (Z : q_Z) (M : q_C) : Option ((Int32 × q_C) ⊕ (q_C ⊕ q_C)) :=
  q_gd (zK Z h == 16) <|
  if gI M h 3 ≤ v2 then
    some (Sum.inr (Sum.inr M))
  else
    Option.bind (fX6_sightOf h v2 Z M) fun r_10 =>
    q_on r_10 (
      fX6_fitsAllBut_b102 h v1 v2 Z M
    ) fun a_13 =>
      if v2 = v1 then
        fX6_fitsAllBut_b102 h v1 v2 Z M
      else
        q_gd (zK Z a_13 == 12) <|
        if gI M a_13 0 = (2 : Int32) then
          fX6_fitsAllBut_b102 h v1 v2 Z M
        else
          Option.bind (gR M h 12) fun a_17 =>
          Option.bind (gR M h 0) fun a_19 =>
          q_gd (zK Z a_17 == 10) <|
          Option.bind (fX0_go a_17 (some a_19) (gI M a_13 1) Z M) fun M_23 =>
          Option.bind (gR M_23 h 12) fun a_24 =>
          q_gd (zK Z a_24 == 10) <|
          if gI M_23 a_24 5 = 0 then
            Option.bind (gR M_23 h 0) fun a_27 =>
            q_gd (zK Z a_27 == 13) <|
            Option.bind (gR M_23 a_27 0) fun a_30 =>
            Option.bind (gR M_23 h 12) fun a_32 =>
            q_gd (zK Z a_32 == 10) <|
            Option.bind (gR M_23 h 12) fun a_35 =>
            q_gd (zK Z a_35 == 10) <|
            Option.bind (fX2_takes a_13 (some a_30) (gJ M_23 a_32 0) (gJ M_23 a_35 1) Z M_23) fun r_38 =>
            if r_38 = 0 then
              some (Sum.inr (Sum.inl M_23))
            else
              fX6_fitsAllBut_b102 h v1 v2 Z M_23
          else
            some (Sum.inr (Sum.inl M_23))
set_option maxHeartbeats 4000000 in
set_option maxRecDepth 100000 in
theorem lX6_fitsAllBut_13 {cells slots : Nat} {Q : State → Prop} (E : q_E p s m meth c cX6_fitsAllBut 4 RX6 (some .boolean) "fitsAllBut" D cA) (hR : 4 ≤ R.frames ∧ 104 ≤ R.locals) (hcc : cells ≤ R.cells ∧ slots ≤ R.slots)  (h : Nat) (v1 : Int32) (Z : q_Z) : ∀ (n : Nat) (v2 : Int32) (M : q_C) (H : Heap) (locs : List Loc) (ls : Array Slot) (r : q_C ⊕ q_C), q_it (fun x => fX6_fitsAllBut_L13 h v1 x.1 Z x.2) n (v2, M) = some r → q_Hh D cA z0 s Z M H locs → lv_has ls 4 [(0, .ref h), (1, .int v1), (2, .int v2)] → (kx0 : ∀ (M1 : q_C) (H : Heap) (locs : List Loc) (ls : Array Slot), (Sum.inl M1) = r → q_Hh D cA z0 s Z M1 H locs → lv_has ls 4 [] → W p l e R s m args below meth c H locs cells slots Q (F0 m 100 ls [])) → (kx1 : ∀ (M1 : q_C) (H : Heap) (locs : List Loc) (ls : Array Slot), (Sum.inr M1) = r → q_Hh D cA z0 s Z M1 H locs → lv_has ls 4 [] → W p l e R s m args below meth c H locs cells slots Q (F0 m 108 ls [])) → W p l e R s m args below meth c H locs cells slots Q (F0 m 13 ls []) := by
  have hx := E.1
  have hb := E.2.1
  have hown := E.2.2.2.1
  have hT := E.2.2.2.2.2.2.2.1
  intro n
  induction n with
  | zero =>
    intro v2 M H locs ls r hf
    cases hf
  | succ n ih =>
    intro v2 M H locs ls r hf hH hl ky0 ky1
    obtain ⟨n1, o, hn, hf, ho⟩ := q_itE hf
    cases hn
    have hf : fX6_fitsAllBut_L13 h v1 v2 Z M = some o := hf
    have kb : ∀ (w2 : Int32) (M1 : q_C) (H : Heap) (locs : List Loc) (ls : Array Slot), Sum.inl (w2, M1) = o → q_Hh D cA z0 s Z M1 H locs → lv_has ls 4 [(0, .ref h), (1, .int v1), (2, .int w2)] → W p l e R s m args below meth c H locs cells slots Q (F0 m 13 ls []) := by
      intro w2 M1 H locs ls e hH hl
      subst e
      exact ih w2 M1 H locs ls r ho hH hl ky0 ky1
    have kx0 : ∀ (M1 : q_C) (H : Heap) (locs : List Loc) (ls : Array Slot), Sum.inr (Sum.inl M1) = o → q_Hh D cA z0 s Z M1 H locs → lv_has ls 4 [] → W p l e R s m args below meth c H locs cells slots Q (F0 m 100 ls []) := by
      intro M1 H locs ls e hH hl
      subst e
      exact ky0 M1 H locs ls ho hH hl
    have kx1 : ∀ (M1 : q_C) (H : Heap) (locs : List Loc) (ls : Array Slot), Sum.inr (Sum.inr M1) = o → q_Hh D cA z0 s Z M1 H locs → lv_has ls 4 [] → W p l e R s m args below meth c H locs cells slots Q (F0 m 108 ls []) := by
      intro M1 H locs ls e hH hl
      subst e
      exact ky1 M1 H locs ls ho hH hl
    unfold fX6_fitsAllBut_L13 at hf
    refine lv_iload_n hx hb dX6_fitsAllBut_13 rfl (lv_at hl 2 rfl) ?_
    refine lv_aload_n hx hb dX6_fitsAllBut_14 rfl (lv_at hl 0 rfl) ?_
    obtain ⟨hk_9, hf⟩ := q_gdE hf
    have hk_9 := q_keq hk_9
    refine q_getI E hH (ci := 6) rfl 3 (by decide) kF_X6_25 (fun _ _ _ => rfl) hk_9 dX6_fitsAllBut_15 ?_
    refine lv_icmp_ge (tgt := 108) hx hb dX6_fitsAllBut_18 (by decide) (fun cc_44 => ?_) (fun cc_44 => ?_)
    · replace hf := q_ifT cc_44 hf
      clear cc_44
      cases hf
      exact kx1 M _ _ _ rfl hH (lv_sub hl [] rfl)
    · replace hf := q_ifF cc_44 hf
      clear cc_44
      refine lv_aload_n hx hb dX6_fitsAllBut_21 rfl (lv_at hl 0 rfl) ?_
      refine lv_iload_n hx hb dX6_fitsAllBut_22 rfl (lv_at hl 2 rfl) ?_
      obtain ⟨r_10, hw_11, hf⟩ := q_biE hf
      refine q_cV (As := [.int v2]) (rest := []) (st1 := [va_rf r_10]) E hH (tX6_sightOf l D cA z0 h v2 Z M r_10 hw_11) mw_X6_sightOf mi_X6_sightOf (ci := 6) rfl ms_X6_sightOf kM_X6_124 hk_9 hcc rfl rfl rfl hl.1 rfl rfl (Nat.le_of_ble_eq_true rfl) ⟨Nat.le_trans (by decide) hR.1, Nat.le_trans (by decide) hR.2⟩ dX6_fitsAllBut_23 (fun H locs hH => ?_)
      refine q_astore_n (lv' := [(3, va_rf r_10), (0, .ref h), (1, .int v1), (2, .int v2)]) hx hb dX6_fitsAllBut_26 rfl hl (by decide) rfl (fun ls hl => ?_)
      refine q_aload_n hx hb dX6_fitsAllBut_27 rfl (lv_at hl 0 rfl) ?_
      refine q_ifnull (tgt := 102) hx hb dX6_fitsAllBut_28 (by decide) hf (fun cc_12 hf => ?_) (fun a_13 cc_12 hf => ?_)
      · subst cc_12
        exact bX6_fitsAllBut_102 E hR hcc h v1 v2 Z M _ _ _ _ hf hH (lv_sub hl [1, 2, 3] rfl) kb kx0 kx1
      · subst cc_12
        refine lv_iload_n hx hb dX6_fitsAllBut_31 rfl (lv_at hl 3 rfl) ?_
        refine lv_iload_n hx hb dX6_fitsAllBut_32 rfl (lv_at hl 2 rfl) ?_
        refine lv_icmp_eq (tgt := 102) hx hb dX6_fitsAllBut_33 (by decide) (fun cc_43 => ?_) (fun cc_43 => ?_)
        · replace hf := q_ifT cc_43 hf
          clear cc_43
          exact bX6_fitsAllBut_102 E hR hcc h v1 v2 Z M _ _ _ _ hf hH (lv_sub hl [1, 2, 3] rfl) kb kx0 kx1
        · replace hf := q_ifF cc_43 hf
          clear cc_43
          refine lv_aload_n hx hb dX6_fitsAllBut_36 rfl (lv_at hl 0 rfl) ?_
          obtain ⟨hk_16, hf⟩ := q_gdE hf
          have hk_16 := q_keq hk_16
          refine q_getIN E hH (ci := 2) rfl 0 (by decide) kF_X6_109 (fun _ _ _ => rfl) hk_16 dX6_fitsAllBut_37 ?_
          refine lv_iconst (v := 2) hx hb dX6_fitsAllBut_40 (by decide) ?_
          refine lv_icmp_ne (tgt := 47) hx hb dX6_fitsAllBut_41 (by decide) (fun cc_42 => ?_) (fun cc_42 => ?_)
          · replace hf := q_ifF cc_42 hf
            clear cc_42
            refine lv_aload_n hx hb dX6_fitsAllBut_47 rfl (lv_at hl 1 rfl) ?_
            refine q_getR E hH (ci := 6) rfl 12 (by decide) kF_X6_59 (fun _ _ _ => rfl) hk_9 dX6_fitsAllBut_48 ?_
            obtain ⟨a_17, he_18, hf⟩ := q_biE hf
            rw [he_18]
            refine lv_aload_n hx hb dX6_fitsAllBut_51 rfl (lv_at hl 1 rfl) ?_
            refine q_getR E hH (ci := 6) rfl 0 (by decide) kF_X6_12 (fun _ _ _ => rfl) hk_9 dX6_fitsAllBut_52 ?_
            obtain ⟨a_19, he_20, hf⟩ := q_biE hf
            rw [he_20]
            refine lv_aload_n hx hb dX6_fitsAllBut_55 rfl (lv_at hl 0 rfl) ?_
            refine q_getIN E hH (ci := 2) rfl 1 (by decide) kF_X6_112 (fun _ _ _ => rfl) hk_16 dX6_fitsAllBut_56 ?_
            obtain ⟨hk_21, hf⟩ := q_gdE hf
            have hk_21 := q_keq hk_21
            obtain ⟨M_23, hw_22, hf⟩ := q_biE hf
            refine q_cV (As := [.ref a_19, .int (gI M a_13 1)]) (rest := []) (st1 := []) E hH (tX0_go l D cA z0 a_17 (some a_19) (gI M a_13 1) Z M M_23 hw_22) mw_X0_go mi_X0_go (ci := 0) rfl ms_X0_go kM_X6_245 hk_21 hcc rfl rfl rfl hl.1 rfl rfl (Nat.le_of_ble_eq_true rfl) ⟨Nat.le_trans (by decide) hR.1, Nat.le_trans (by decide) hR.2⟩ dX6_fitsAllBut_59 (fun H locs hH => ?_)
            refine lv_aload_n hx hb dX6_fitsAllBut_62 rfl (lv_at hl 1 rfl) ?_
            refine q_getR E hH (ci := 6) rfl 12 (by decide) kF_X6_59 (fun _ _ _ => rfl) hk_9 dX6_fitsAllBut_63 ?_
            obtain ⟨a_24, he_25, hf⟩ := q_biE hf
            rw [he_25]
            obtain ⟨hk_26, hf⟩ := q_gdE hf
            have hk_26 := q_keq hk_26
            refine q_getIN E hH (ci := 0) rfl 5 (by decide) kF_X6_249 (fun _ _ _ => rfl) hk_26 dX6_fitsAllBut_66 ?_
            refine lv_if_ne (tgt := 100) hx hb dX6_fitsAllBut_69 (by decide) (fun cc_41 => ?_) (fun cc_41 => ?_)
            · replace hf := q_ifF cc_41 hf
              clear cc_41
              cases hf
              exact kx0 M_23 _ _ _ rfl hH (lv_sub hl [] rfl)
            · replace hf := q_ifT cc_41 hf
              clear cc_41
              refine lv_aload_n hx hb dX6_fitsAllBut_72 rfl (lv_at hl 0 rfl) ?_
              refine lv_aload_n hx hb dX6_fitsAllBut_73 rfl (lv_at hl 1 rfl) ?_
              refine q_getR E hH (ci := 6) rfl 0 (by decide) kF_X6_12 (fun _ _ _ => rfl) hk_9 dX6_fitsAllBut_74 ?_
              obtain ⟨a_27, he_28, hf⟩ := q_biE hf
              rw [he_28]
              obtain ⟨hk_29, hf⟩ := q_gdE hf
              have hk_29 := q_keq hk_29
              refine q_getRN E hH (ci := 3) rfl 0 (by decide) kF_X6_90 (fun _ _ _ => rfl) hk_29 dX6_fitsAllBut_77 ?_
              obtain ⟨a_30, he_31, hf⟩ := q_biE hf
              rw [he_31]
              refine lv_aload_n hx hb dX6_fitsAllBut_80 rfl (lv_at hl 1 rfl) ?_
              refine q_getR E hH (ci := 6) rfl 12 (by decide) kF_X6_59 (fun _ _ _ => rfl) hk_9 dX6_fitsAllBut_81 ?_
              obtain ⟨a_32, he_33, hf⟩ := q_biE hf
              rw [he_33]
              obtain ⟨hk_34, hf⟩ := q_gdE hf
              have hk_34 := q_keq hk_34
              refine q_getJN E hH (ci := 0) rfl 0 (by decide) kF_X6_253 (fun _ _ _ => rfl) hk_34 dX6_fitsAllBut_84 ?_
              refine lv_aload_n hx hb dX6_fitsAllBut_87 rfl (lv_at hl 1 rfl) ?_
              refine q_getR E hH (ci := 6) rfl 12 (by decide) kF_X6_59 (fun _ _ _ => rfl) hk_9 dX6_fitsAllBut_88 ?_
              obtain ⟨a_35, he_36, hf⟩ := q_biE hf
              rw [he_36]
              obtain ⟨hk_37, hf⟩ := q_gdE hf
              have hk_37 := q_keq hk_37
              refine q_getJN E hH (ci := 0) rfl 1 (by decide) kF_X6_255 (fun _ _ _ => rfl) hk_37 dX6_fitsAllBut_91 ?_
              obtain ⟨r_38, hw_39, hf⟩ := q_biE hf
              refine q_cV (As := [.ref a_30, .long (gJ M_23 a_32 0), .long (gJ M_23 a_35 1)]) (rest := []) (st1 := [.int r_38]) E hH (tX2_takes l D cA z0 a_13 (some a_30) (gJ M_23 a_32 0) (gJ M_23 a_35 1) Z M_23 r_38 hw_39) mw_X2_takes mi_X2_takes (ci := 2) rfl ms_X2_takes kM_X6_257 hk_16 hcc rfl rfl rfl hl.1 rfl rfl (Nat.le_of_ble_eq_true rfl) ⟨Nat.le_trans (by decide) hR.1, Nat.le_trans (by decide) hR.2⟩ dX6_fitsAllBut_94 (fun H locs hH => ?_)
              refine lv_if_ne (tgt := 102) hx hb dX6_fitsAllBut_97 (by decide) (fun cc_40 => ?_) (fun cc_40 => ?_)
              · replace hf := q_ifF cc_40 hf
                clear cc_40
                exact bX6_fitsAllBut_102 E hR hcc h v1 v2 Z M_23 _ _ _ _ hf hH (lv_sub hl [1, 2, 3] rfl) kb kx0 kx1
              · replace hf := q_ifT cc_40 hf
                clear cc_40
                cases hf
                exact kx0 M_23 _ _ _ rfl hH (lv_sub hl [] rfl)
          · replace hf := q_ifT cc_42 hf
            clear cc_42
            refine lv_goto (tgt := 102) hx hb dX6_fitsAllBut_44 (by decide) ?_
            exact bX6_fitsAllBut_102 E hR hcc h v1 v2 Z M _ _ _ _ hf hH (lv_sub hl [1, 2, 3] rfl) kb kx0 kx1
def fX6_fitsAllBut_b100 (h : Nat) (Z : q_Z) (M : q_C) : Option (Int32 × q_C) :=
  q_gd (decide ((0 : Int32) = 0) || decide ((0 : Int32) = 1)) <|
  some ((0 : Int32), M)
set_option maxHeartbeats 4000000 in
set_option maxRecDepth 100000 in
theorem bX6_fitsAllBut_100 {cells slots : Nat} (E : q_E p s m meth c cX6_fitsAllBut 4 RX6 (some .boolean) "fitsAllBut" D cA) (hR : 4 ≤ R.frames ∧ 104 ≤ R.locals) (hcc : cells ≤ R.cells ∧ slots ≤ R.slots) (h : Nat) (Z : q_Z) (M : q_C) (H : Heap) (locs : List Loc) (ls : Array Slot) (r : Int32) (M' : q_C) (hf : fX6_fitsAllBut_b100 h Z M = some (r, M')) (hH : q_Hh D cA z0 s Z M H locs) (hl : lv_has ls 4 [])  : W p l e R s m args below meth c H locs cells slots (MQ below (q_Q D cA z0 (some (.int r)) Z M') args s cells slots (fun q => z0 ≤ q)) (F0 m 100 ls []) := by
  have hx := E.1
  have hb := E.2.1
  have hown := E.2.2.2.1
  have hT := E.2.2.2.2.2.2.2.1
  unfold fX6_fitsAllBut_b100 at hf
  refine lv_iconst (v := 0) hx hb dX6_fitsAllBut_100 (by decide) ?_
  obtain ⟨hz_51, hf⟩ := q_gdE hf
  cases hf
  exact q_zret E hH hz_51 dX6_fitsAllBut_101
def fX6_fitsAllBut (h : Nat) (v1 : Int32) (Z : q_Z) (M : q_C) : Option (Int32 × q_C) :=
  q_gd (zK Z h == 16) <|
  Option.bind (gR M h 12) fun a_2 =>
  Option.bind (gR M h 13) fun a_4 =>
  q_gd (zK Z a_2 == 10) <|
  Option.bind (fX0_begin a_2 (some a_4) Z M) fun M_8 =>
  Option.bind (q_it (fun x => fX6_fitsAllBut_L13 h v1 x.1 Z x.2) q_FU ((0 : Int32), M_8)) fun r_45 =>
  q_sm r_45 (fun e_47 =>
    q_nm e_47 fun M_48 =>
    fX6_fitsAllBut_b100 h Z M_48
  ) fun e_49 =>
  q_nm e_49 fun M_50 =>
  q_gd (decide ((1 : Int32) = 0) || decide ((1 : Int32) = 1)) <|
  some ((1 : Int32), M_50)
set_option maxHeartbeats 4000000 in
set_option maxRecDepth 100000 in
theorem bX6_fitsAllBut_0 {cells slots : Nat} (E : q_E p s m meth c cX6_fitsAllBut 4 RX6 (some .boolean) "fitsAllBut" D cA) (hR : 4 ≤ R.frames ∧ 104 ≤ R.locals) (hcc : cells ≤ R.cells ∧ slots ≤ R.slots) (h : Nat) (v1 : Int32) (Z : q_Z) (M : q_C) (H : Heap) (locs : List Loc) (ls : Array Slot) (r : Int32) (M' : q_C) (hf : fX6_fitsAllBut h v1 Z M = some (r, M')) (hH : q_Hh D cA z0 s Z M H locs) (hl : lv_has ls 4 [(0, .ref h), (1, .int v1)])  : W p l e R s m args below meth c H locs cells slots (MQ below (q_Q D cA z0 (some (.int r)) Z M') args s cells slots (fun q => z0 ≤ q)) (F0 m 0 ls []) := by
  have hx := E.1
  have hb := E.2.1
  have hown := E.2.2.2.1
  have hT := E.2.2.2.2.2.2.2.1
  unfold fX6_fitsAllBut at hf
  refine lv_aload_n hx hb dX6_fitsAllBut_0 rfl (lv_at hl 0 rfl) ?_
  obtain ⟨hk_1, hf⟩ := q_gdE hf
  have hk_1 := q_keq hk_1
  refine q_getR E hH (ci := 6) rfl 12 (by decide) kF_X6_59 (fun _ _ _ => rfl) hk_1 dX6_fitsAllBut_1 ?_
  obtain ⟨a_2, he_3, hf⟩ := q_biE hf
  rw [he_3]
  refine lv_aload_n hx hb dX6_fitsAllBut_4 rfl (lv_at hl 0 rfl) ?_
  refine q_getR E hH (ci := 6) rfl 13 (by decide) kF_X6_64 (fun _ _ _ => rfl) hk_1 dX6_fitsAllBut_5 ?_
  obtain ⟨a_4, he_5, hf⟩ := q_biE hf
  rw [he_5]
  obtain ⟨hk_6, hf⟩ := q_gdE hf
  have hk_6 := q_keq hk_6
  obtain ⟨M_8, hw_7, hf⟩ := q_biE hf
  refine q_cV (As := [.ref a_4]) (rest := []) (st1 := []) E hH (tX0_begin l D cA z0 a_2 (some a_4) Z M M_8 hw_7) mw_X0_begin mi_X0_begin (ci := 0) rfl ms_X0_begin kM_X6_242 hk_6 hcc rfl rfl rfl hl.1 rfl rfl (Nat.le_of_ble_eq_true rfl) ⟨Nat.le_trans (by decide) hR.1, Nat.le_trans (by decide) hR.2⟩ dX6_fitsAllBut_8 (fun H locs hH => ?_)
  refine lv_iconst (v := 0) hx hb dX6_fitsAllBut_11 (by decide) ?_
  refine lv_istore_n (lv' := [(2, .int (0 : Int32)), (0, .ref h), (1, .int v1)]) hx hb dX6_fitsAllBut_12 rfl hl (by decide) rfl (fun ls hl => ?_)
  obtain ⟨r_45, hr_46, hf⟩ := q_biE hf
  refine lX6_fitsAllBut_13 E hR hcc h v1 Z q_FU (0 : Int32) M_8 _ _ _ r_45 hr_46 hH (lv_sub hl [1, 2, 0] rfl) (fun M_48 H locs ls he_53 hH hl => ?_) (fun M_50 H locs ls he_54 hH hl => ?_)
  · subst he_53
    replace hf := q_smL hf
    replace hf := q_nmE (x := M_48) rfl hf
    exact bX6_fitsAllBut_100 E hR hcc h Z M_48 _ _ _ _ _ hf hH (lv_sub hl [] rfl)
  · subst he_54
    replace hf := q_smR hf
    replace hf := q_nmE (x := M_50) rfl hf
    refine lv_iconst (v := 1) hx hb dX6_fitsAllBut_108 (by decide) ?_
    obtain ⟨hz_52, hf⟩ := q_gdE hf
    cases hf
    exact q_zret E hH hz_52 dX6_fitsAllBut_109
set_option maxRecDepth 100000 in
theorem tX6_fitsAllBut (l : Launch) (D : va_G) (cA : Nat → ClassId) (z0 : Nat) (h : Nat) (v1 : Int32) (Z : q_Z) (M : q_C) (r : Int32) (M' : q_C) (hf : fX6_fitsAllBut h v1 Z M = some (r, M')) : q_Ct l D cA z0 yX6_fitsAllBut cX6_fitsAllBut 4 (some .boolean) 4 104 [.ref h, .int v1] Z M (some (.int r)) Z M' 0 0 := by
  (refine q_start (plainFor_of_name (by decide)) (Nat.le_of_ble_eq_true rfl) (fun p e s m below meth c H ls E hH hl => ?_); exact bX6_fitsAllBut_0 E ⟨Nat.le_refl _, Nat.le_refl _⟩ ⟨Nat.le_refl _, Nat.le_refl _⟩ h _ Z M H [] ls r M' hf hH hl)
def fX6_keptWay_b31 (h : Nat) (s0 : Option Nat) (Z : q_Z) (M : q_C) : Option (Option Nat) :=
  some s0
set_option maxHeartbeats 4000000 in
set_option maxRecDepth 100000 in
theorem bX6_keptWay_31 {cells slots : Nat} (E : q_E p s m meth c cX6_keptWay 2 RX6 (some (.object "CometBench$Way")) "keptWay" D cA) (hR : 0 ≤ R.frames ∧ 0 ≤ R.locals) (hcc : cells ≤ R.cells ∧ slots ≤ R.slots) (h : Nat) (s0 : Option Nat) (Z : q_Z) (M : q_C) (H : Heap) (locs : List Loc) (ls : Array Slot) (r : Option Nat) (hf : fX6_keptWay_b31 h s0 Z M = some r) (hH : q_Hh D cA z0 s Z M H locs) (hl : lv_has ls 2 [])  : W p l e R s m args below meth c H locs cells slots (MQ below (q_Q D cA z0 (some (va_rf r)) Z M) args s cells slots (fun q => z0 ≤ q)) (F0 m 31 ls [va_rf s0]) := by
  have hx := E.1
  have hb := E.2.1
  have hown := E.2.2.2.1
  have hT := E.2.2.2.2.2.2.2.1
  unfold fX6_keptWay_b31 at hf
  cases hf
  exact q_aret (v := _) E hH dX6_keptWay_31
def fX6_keptWay_b30 (h : Nat) (Z : q_Z) (M : q_C) : Option (Option Nat) :=
  fX6_keptWay_b31 h none Z M
set_option maxHeartbeats 4000000 in
set_option maxRecDepth 100000 in
theorem bX6_keptWay_30 {cells slots : Nat} (E : q_E p s m meth c cX6_keptWay 2 RX6 (some (.object "CometBench$Way")) "keptWay" D cA) (hR : 0 ≤ R.frames ∧ 0 ≤ R.locals) (hcc : cells ≤ R.cells ∧ slots ≤ R.slots) (h : Nat) (Z : q_Z) (M : q_C) (H : Heap) (locs : List Loc) (ls : Array Slot) (r : Option Nat) (hf : fX6_keptWay_b30 h Z M = some r) (hH : q_Hh D cA z0 s Z M H locs) (hl : lv_has ls 2 [])  : W p l e R s m args below meth c H locs cells slots (MQ below (q_Q D cA z0 (some (va_rf r)) Z M) args s cells slots (fun q => z0 ≤ q)) (F0 m 30 ls []) := by
  have hx := E.1
  have hb := E.2.1
  have hown := E.2.2.2.1
  have hT := E.2.2.2.2.2.2.2.1
  unfold fX6_keptWay_b30 at hf
  refine lv_null hx hb dX6_keptWay_30 ?_
  exact bX6_keptWay_31 E hR hcc h none Z M _ _ _ _ hf hH (lv_sub hl [] rfl)
def fX6_keptWay (h : Nat) (v1 : Int32) (Z : q_Z) (M : q_C) : Option (Option Nat) :=
  if v1 < 0 then
    fX6_keptWay_b30 h Z M
  else
    q_gd (zK Z h == 16) <|
    if gI M h 10 ≤ v1 then
      fX6_keptWay_b30 h Z M
    else
      Option.bind (gR M h 9) fun a_2 =>
      q_gd (zK Z a_2 == 4) <|
      if nI (zL Z a_2) ≤ v1 then
        fX6_keptWay_b30 h Z M
      else
        Option.bind (gR M h 9) fun a_5 =>
        q_gd (q_ok Z a_5 4 v1) <|
        fX6_keptWay_b31 h (gR M a_5 v1.toNatClampNeg) Z M
set_option maxHeartbeats 4000000 in
set_option maxRecDepth 100000 in
theorem bX6_keptWay_0 {cells slots : Nat} (E : q_E p s m meth c cX6_keptWay 2 RX6 (some (.object "CometBench$Way")) "keptWay" D cA) (hR : 0 ≤ R.frames ∧ 0 ≤ R.locals) (hcc : cells ≤ R.cells ∧ slots ≤ R.slots) (h : Nat) (v1 : Int32) (Z : q_Z) (M : q_C) (H : Heap) (locs : List Loc) (ls : Array Slot) (r : Option Nat) (hf : fX6_keptWay h v1 Z M = some r) (hH : q_Hh D cA z0 s Z M H locs) (hl : lv_has ls 2 [(0, .ref h), (1, .int v1)])  : W p l e R s m args below meth c H locs cells slots (MQ below (q_Q D cA z0 (some (va_rf r)) Z M) args s cells slots (fun q => z0 ≤ q)) (F0 m 0 ls []) := by
  have hx := E.1
  have hb := E.2.1
  have hown := E.2.2.2.1
  have hT := E.2.2.2.2.2.2.2.1
  unfold fX6_keptWay at hf
  refine lv_iload_n hx hb dX6_keptWay_0 rfl (lv_at hl 1 rfl) ?_
  refine lv_if_lt (tgt := 30) hx hb dX6_keptWay_1 (by decide) (fun cc_10 => ?_) (fun cc_10 => ?_)
  · replace hf := q_ifT cc_10 hf
    clear cc_10
    exact bX6_keptWay_30 E hR hcc h Z M _ _ _ _ hf hH (lv_sub hl [] rfl)
  · replace hf := q_ifF cc_10 hf
    clear cc_10
    refine lv_iload_n hx hb dX6_keptWay_4 rfl (lv_at hl 1 rfl) ?_
    refine lv_aload_n hx hb dX6_keptWay_5 rfl (lv_at hl 0 rfl) ?_
    obtain ⟨hk_1, hf⟩ := q_gdE hf
    have hk_1 := q_keq hk_1
    refine q_getI E hH (ci := 6) rfl 10 (by decide) kF_X6_50 (fun _ _ _ => rfl) hk_1 dX6_keptWay_6 ?_
    refine lv_icmp_ge (tgt := 30) hx hb dX6_keptWay_9 (by decide) (fun cc_9 => ?_) (fun cc_9 => ?_)
    · replace hf := q_ifT cc_9 hf
      clear cc_9
      exact bX6_keptWay_30 E hR hcc h Z M _ _ _ _ hf hH (lv_sub hl [] rfl)
    · replace hf := q_ifF cc_9 hf
      clear cc_9
      refine lv_iload_n hx hb dX6_keptWay_12 rfl (lv_at hl 1 rfl) ?_
      refine lv_aload_n hx hb dX6_keptWay_13 rfl (lv_at hl 0 rfl) ?_
      refine q_getR E hH (ci := 6) rfl 9 (by decide) kF_X6_46 (fun _ _ _ => rfl) hk_1 dX6_keptWay_14 ?_
      obtain ⟨a_2, he_3, hf⟩ := q_biE hf
      rw [he_3]
      obtain ⟨hk_4, hf⟩ := q_gdE hf
      have hk_4 := q_keq hk_4
      refine q_alen4 E hH hk_4 dX6_keptWay_17 ?_
      refine lv_icmp_ge (tgt := 30) hx hb dX6_keptWay_18 (by decide) (fun cc_8 => ?_) (fun cc_8 => ?_)
      · replace hf := q_ifT cc_8 hf
        clear cc_8
        exact bX6_keptWay_30 E hR hcc h Z M _ _ _ _ hf hH (lv_sub hl [] rfl)
      · replace hf := q_ifF cc_8 hf
        clear cc_8
        refine lv_aload_n hx hb dX6_keptWay_21 rfl (lv_at hl 0 rfl) ?_
        refine q_getR E hH (ci := 6) rfl 9 (by decide) kF_X6_46 (fun _ _ _ => rfl) hk_1 dX6_keptWay_22 ?_
        obtain ⟨a_5, he_6, hf⟩ := q_biE hf
        rw [he_6]
        refine lv_iload_n hx hb dX6_keptWay_25 rfl (lv_at hl 1 rfl) ?_
        obtain ⟨hz_7, hf⟩ := q_gdE hf
        refine q_aaload4 E hH hz_7 dX6_keptWay_26 ?_
        refine lv_goto (tgt := 31) hx hb dX6_keptWay_27 (by decide) ?_
        exact bX6_keptWay_31 E hR hcc h (gR M a_5 v1.toNatClampNeg) Z M _ _ _ _ hf hH (lv_sub hl [] rfl)
set_option maxRecDepth 100000 in
theorem tX6_keptWay (l : Launch) (D : va_G) (cA : Nat → ClassId) (z0 : Nat) (h : Nat) (v1 : Int32) (Z : q_Z) (M : q_C) (r : Option Nat) (hf : fX6_keptWay h v1 Z M = some r) : q_Ct l D cA z0 yX6_keptWay cX6_keptWay 2 (some (.object "CometBench$Way")) 0 0 [.ref h, .int v1] Z M (some (va_rf r)) Z M 0 0 := by
  (refine q_start (plainFor_of_name (by decide)) (Nat.le_of_ble_eq_true rfl) (fun p e s m below meth c H ls E hH hl => ?_); exact bX6_keptWay_0 E ⟨Nat.le_refl _, Nat.le_refl _⟩ ⟨Nat.le_refl _, Nat.le_refl _⟩ h _ Z M H [] ls r hf hH hl)
def fX6_way (h : Nat) (v1 : Int32) (v2 : Int32) (Z : q_Z) (M : q_C) : Option (Int32) :=
  q_gd (zK Z h == 16) <|
  Option.bind (fX6_keptWay h v1 Z M) fun r_2 =>
  q_on r_2 (
    some (-1000000 : Int32)
  ) fun a_5 =>
    if v2 = 0 then
      q_gd (zK Z a_5 == 15) <|
      some (gI M a_5 0)
    else
    if v2 = 1 then
      q_gd (zK Z a_5 == 15) <|
      some (gI M a_5 1)
    else
    if v2 = 2 then
      q_gd (zK Z a_5 == 15) <|
      some (gI M a_5 2)
    else
    if v2 = 3 then
      q_gd (zK Z a_5 == 15) <|
      some (gI M a_5 3)
    else
    if v2 = 4 then
      q_gd (zK Z a_5 == 15) <|
      some (gI M a_5 4)
    else
    if v2 = 5 then
      q_gd (zK Z a_5 == 15) <|
      some (gI M a_5 5)
    else
    if v2 = 6 then
      q_gd (zK Z a_5 == 15) <|
      some (gI M a_5 6)
    else
    some (-1000000 : Int32)
set_option maxHeartbeats 4000000 in
set_option maxRecDepth 100000 in
theorem bX6_way_0 {cells slots : Nat} (E : q_E p s m meth c cX6_way 4 RX6 (some .int) "way" D cA) (hR : 1 ≤ R.frames ∧ 21 ≤ R.locals) (hcc : cells ≤ R.cells ∧ slots ≤ R.slots) (h : Nat) (v1 : Int32) (v2 : Int32) (Z : q_Z) (M : q_C) (H : Heap) (locs : List Loc) (ls : Array Slot) (r : Int32) (hf : fX6_way h v1 v2 Z M = some r) (hH : q_Hh D cA z0 s Z M H locs) (hl : lv_has ls 4 [(0, .ref h), (1, .int v1), (2, .int v2)])  : W p l e R s m args below meth c H locs cells slots (MQ below (q_Q D cA z0 (some (.int r)) Z M) args s cells slots (fun q => z0 ≤ q)) (F0 m 0 ls []) := by
  have hx := E.1
  have hb := E.2.1
  have hown := E.2.2.2.1
  have hT := E.2.2.2.2.2.2.2.1
  unfold fX6_way at hf
  refine lv_aload_n hx hb dX6_way_0 rfl (lv_at hl 0 rfl) ?_
  refine lv_iload_n hx hb dX6_way_1 rfl (lv_at hl 1 rfl) ?_
  obtain ⟨hk_1, hf⟩ := q_gdE hf
  have hk_1 := q_keq hk_1
  obtain ⟨r_2, hw_3, hf⟩ := q_biE hf
  refine q_cV (As := [.int v1]) (rest := []) (st1 := [va_rf r_2]) E hH (tX6_keptWay l D cA z0 h v1 Z M r_2 hw_3) mw_X6_keptWay mi_X6_keptWay (ci := 6) rfl ms_X6_keptWay kM_X6_143 hk_1 hcc rfl rfl rfl hl.1 rfl rfl (Nat.le_of_ble_eq_true rfl) ⟨Nat.le_trans (by decide) hR.1, Nat.le_trans (by decide) hR.2⟩ dX6_way_2 (fun H locs hH => ?_)
  refine q_astore_n (lv' := [(3, va_rf r_2), (0, .ref h), (1, .int v1), (2, .int v2)]) hx hb dX6_way_5 rfl hl (by decide) rfl (fun ls hl => ?_)
  refine q_aload_n hx hb dX6_way_6 rfl (lv_at hl 0 rfl) ?_
  refine q_ifnonnull (tgt := 13) hx hb dX6_way_7 (by decide) hf (fun cc_4 hf => ?_) (fun a_5 cc_4 hf => ?_)
  · subst cc_4
    refine lv_ldc hx hb hown (hT.1 _ _ kK_X6_147) dX6_way_10 ?_
    cases hf
    exact q_iret E hH dX6_way_12
  · subst cc_4
    refine lv_iload_n hx hb dX6_way_13 rfl (lv_at hl 3 rfl) ?_
    by_cases cs_13 : v2 = 0
    · replace hf := q_ifT cs_13 hf
      refine q_tin (tgt := 56) 0 hx hb dX6_way_14 cs_13 (by decide) (by decide) rfl (by decide) ?_
      refine lv_aload_n hx hb dX6_way_56 rfl (lv_at hl 0 rfl) ?_
      obtain ⟨hk_6, hf⟩ := q_gdE hf
      have hk_6 := q_keq hk_6
      refine q_getIN E hH (ci := 5) rfl 0 (by decide) kF_X6_148 (fun _ _ _ => rfl) hk_6 dX6_way_57 ?_
      cases hf
      exact q_iret E hH dX6_way_60
    replace hf := q_ifF cs_13 hf
    by_cases cs_14 : v2 = 1
    · replace hf := q_ifT cs_14 hf
      refine q_tin (tgt := 61) 1 hx hb dX6_way_14 cs_14 (by decide) (by decide) rfl (by decide) ?_
      refine lv_aload_n hx hb dX6_way_61 rfl (lv_at hl 0 rfl) ?_
      obtain ⟨hk_7, hf⟩ := q_gdE hf
      have hk_7 := q_keq hk_7
      refine q_getIN E hH (ci := 5) rfl 1 (by decide) kF_X6_151 (fun _ _ _ => rfl) hk_7 dX6_way_62 ?_
      cases hf
      exact q_iret E hH dX6_way_65
    replace hf := q_ifF cs_14 hf
    by_cases cs_15 : v2 = 2
    · replace hf := q_ifT cs_15 hf
      refine q_tin (tgt := 66) 2 hx hb dX6_way_14 cs_15 (by decide) (by decide) rfl (by decide) ?_
      refine lv_aload_n hx hb dX6_way_66 rfl (lv_at hl 0 rfl) ?_
      obtain ⟨hk_8, hf⟩ := q_gdE hf
      have hk_8 := q_keq hk_8
      refine q_getIN E hH (ci := 5) rfl 2 (by decide) kF_X6_154 (fun _ _ _ => rfl) hk_8 dX6_way_67 ?_
      cases hf
      exact q_iret E hH dX6_way_70
    replace hf := q_ifF cs_15 hf
    by_cases cs_16 : v2 = 3
    · replace hf := q_ifT cs_16 hf
      refine q_tin (tgt := 71) 3 hx hb dX6_way_14 cs_16 (by decide) (by decide) rfl (by decide) ?_
      refine lv_aload_n hx hb dX6_way_71 rfl (lv_at hl 0 rfl) ?_
      obtain ⟨hk_9, hf⟩ := q_gdE hf
      have hk_9 := q_keq hk_9
      refine q_getIN E hH (ci := 5) rfl 3 (by decide) kF_X6_157 (fun _ _ _ => rfl) hk_9 dX6_way_72 ?_
      cases hf
      exact q_iret E hH dX6_way_75
    replace hf := q_ifF cs_16 hf
    by_cases cs_17 : v2 = 4
    · replace hf := q_ifT cs_17 hf
      refine q_tin (tgt := 76) 4 hx hb dX6_way_14 cs_17 (by decide) (by decide) rfl (by decide) ?_
      refine lv_aload_n hx hb dX6_way_76 rfl (lv_at hl 0 rfl) ?_
      obtain ⟨hk_10, hf⟩ := q_gdE hf
      have hk_10 := q_keq hk_10
      refine q_getIN E hH (ci := 5) rfl 4 (by decide) kF_X6_160 (fun _ _ _ => rfl) hk_10 dX6_way_77 ?_
      cases hf
      exact q_iret E hH dX6_way_80
    replace hf := q_ifF cs_17 hf
    by_cases cs_18 : v2 = 5
    · replace hf := q_ifT cs_18 hf
      refine q_tin (tgt := 81) 5 hx hb dX6_way_14 cs_18 (by decide) (by decide) rfl (by decide) ?_
      refine lv_aload_n hx hb dX6_way_81 rfl (lv_at hl 0 rfl) ?_
      obtain ⟨hk_11, hf⟩ := q_gdE hf
      have hk_11 := q_keq hk_11
      refine q_getIN E hH (ci := 5) rfl 5 (by decide) kF_X6_163 (fun _ _ _ => rfl) hk_11 dX6_way_82 ?_
      cases hf
      exact q_iret E hH dX6_way_85
    replace hf := q_ifF cs_18 hf
    by_cases cs_19 : v2 = 6
    · replace hf := q_ifT cs_19 hf
      refine q_tin (tgt := 86) 6 hx hb dX6_way_14 cs_19 (by decide) (by decide) rfl (by decide) ?_
      refine lv_aload_n hx hb dX6_way_86 rfl (lv_at hl 0 rfl) ?_
      obtain ⟨hk_12, hf⟩ := q_gdE hf
      have hk_12 := q_keq hk_12
      refine q_getIN E hH (ci := 5) rfl 6 (by decide) kF_X6_166 (fun _ _ _ => rfl) hk_12 dX6_way_87 ?_
      cases hf
      exact q_iret E hH dX6_way_90
    replace hf := q_ifF cs_19 hf
    refine q_tout (tgt := 91) 7 hx hb dX6_way_14 rfl (fun k hk => match k, hk with | 0, _ => cs_13 | 1, _ => cs_14 | 2, _ => cs_15 | 3, _ => cs_16 | 4, _ => cs_17 | 5, _ => cs_18 | 6, _ => cs_19 | k + 7, hk => absurd hk (by omega)) (by decide) ?_
    refine lv_ldc hx hb hown (hT.1 _ _ kK_X6_147) dX6_way_91 ?_
    cases hf
    exact q_iret E hH dX6_way_93
set_option maxRecDepth 100000 in
theorem tX6_way (l : Launch) (D : va_G) (cA : Nat → ClassId) (z0 : Nat) (h : Nat) (v1 : Int32) (v2 : Int32) (Z : q_Z) (M : q_C) (r : Int32) (hf : fX6_way h v1 v2 Z M = some r) : q_Ct l D cA z0 yX6_way cX6_way 4 (some .int) 1 21 [.ref h, .int v1, .int v2] Z M (some (.int r)) Z M 0 0 := by
  (refine q_start (plainFor_of_name (by decide)) (Nat.le_of_ble_eq_true rfl) (fun p e s m below meth c H ls E hH hl => ?_); exact bX6_way_0 E ⟨Nat.le_refl _, Nat.le_refl _⟩ ⟨Nat.le_refl _, Nat.le_refl _⟩ h _ _ Z M H [] ls r hf hH hl)
def fX6_isFitting_b44 (h : Nat) (s0 : Int32) (Z : q_Z) (M : q_C) : Option (Int32) :=
  q_gd (decide (s0 = 0) || decide (s0 = 1)) <|
  some s0
set_option maxHeartbeats 4000000 in
set_option maxRecDepth 100000 in
theorem bX6_isFitting_44 {cells slots : Nat} (E : q_E p s m meth c cX6_isFitting 4 RX6 (some .boolean) "isFitting" D cA) (hR : 3 ≤ R.frames ∧ 76 ≤ R.locals) (hcc : cells ≤ R.cells ∧ slots ≤ R.slots) (h : Nat) (s0 : Int32) (Z : q_Z) (M : q_C) (H : Heap) (locs : List Loc) (ls : Array Slot) (r : Int32) (hf : fX6_isFitting_b44 h s0 Z M = some r) (hH : q_Hh D cA z0 s Z M H locs) (hl : lv_has ls 4 [])  : W p l e R s m args below meth c H locs cells slots (MQ below (q_Q D cA z0 (some (.int r)) Z M) args s cells slots (fun q => z0 ≤ q)) (F0 m 44 ls [.int s0]) := by
  have hx := E.1
  have hb := E.2.1
  have hown := E.2.2.2.1
  have hT := E.2.2.2.2.2.2.2.1
  unfold fX6_isFitting_b44 at hf
  obtain ⟨hz_11, hf⟩ := q_gdE hf
  cases hf
  exact q_zret E hH hz_11 dX6_isFitting_44
def fX6_isFitting_b43 (h : Nat) (Z : q_Z) (M : q_C) : Option (Int32) :=
  fX6_isFitting_b44 h (0 : Int32) Z M
set_option maxHeartbeats 4000000 in
set_option maxRecDepth 100000 in
theorem bX6_isFitting_43 {cells slots : Nat} (E : q_E p s m meth c cX6_isFitting 4 RX6 (some .boolean) "isFitting" D cA) (hR : 3 ≤ R.frames ∧ 76 ≤ R.locals) (hcc : cells ≤ R.cells ∧ slots ≤ R.slots) (h : Nat) (Z : q_Z) (M : q_C) (H : Heap) (locs : List Loc) (ls : Array Slot) (r : Int32) (hf : fX6_isFitting_b43 h Z M = some r) (hH : q_Hh D cA z0 s Z M H locs) (hl : lv_has ls 4 [])  : W p l e R s m args below meth c H locs cells slots (MQ below (q_Q D cA z0 (some (.int r)) Z M) args s cells slots (fun q => z0 ≤ q)) (F0 m 43 ls []) := by
  have hx := E.1
  have hb := E.2.1
  have hown := E.2.2.2.1
  have hT := E.2.2.2.2.2.2.2.1
  unfold fX6_isFitting_b43 at hf
  refine lv_iconst (v := 0) hx hb dX6_isFitting_43 (by decide) ?_
  exact bX6_isFitting_44 E hR hcc h (0 : Int32) Z M _ _ _ _ hf hH (lv_sub hl [] rfl)
def fX6_isFitting (h : Nat) (v1 : Option Nat) (v2 : Option Nat) (Z : q_Z) (M : q_C) : Option (Int32) :=
  Option.bind v2 fun a_1 =>
  q_gd (zK Z a_1 == 12) <|
  q_nm (gI M a_1 1) fun v3_4 =>
  Option.bind v1 fun a_6 =>
  q_gd (zK Z a_6 == 15) <|
  Option.bind (fX5_isThere a_6 v3_4 Z M) fun r_9 =>
  if r_9 = 0 then
    fX6_isFitting_b43 h Z M
  else
    q_gd (zK Z h == 16) <|
    Option.bind (gR M h 1) fun a_13 =>
    q_gd (zK Z a_13 == 13) <|
    Option.bind (gR M a_13 0) fun a_16 =>
    Option.bind (fX5_xAt a_6 v3_4 Z M) fun r_18 =>
    Option.bind (fX5_yAt a_6 v3_4 Z M) fun r_20 =>
    Option.bind (fX2_takes a_1 (some a_16) r_18.toInt64 r_20.toInt64 Z M) fun r_22 =>
    if r_22 = 0 then
      fX6_isFitting_b43 h Z M
    else
      fX6_isFitting_b44 h (1 : Int32) Z M
set_option maxHeartbeats 4000000 in
set_option maxRecDepth 100000 in
theorem bX6_isFitting_0 {cells slots : Nat} (E : q_E p s m meth c cX6_isFitting 4 RX6 (some .boolean) "isFitting" D cA) (hR : 3 ≤ R.frames ∧ 76 ≤ R.locals) (hcc : cells ≤ R.cells ∧ slots ≤ R.slots) (h : Nat) (v1 : Option Nat) (v2 : Option Nat) (Z : q_Z) (M : q_C) (H : Heap) (locs : List Loc) (ls : Array Slot) (r : Int32) (hf : fX6_isFitting h v1 v2 Z M = some r) (hH : q_Hh D cA z0 s Z M H locs) (hl : lv_has ls 4 [(0, .ref h), (1, va_rf v1), (2, va_rf v2)])  : W p l e R s m args below meth c H locs cells slots (MQ below (q_Q D cA z0 (some (.int r)) Z M) args s cells slots (fun q => z0 ≤ q)) (F0 m 0 ls []) := by
  have hx := E.1
  have hb := E.2.1
  have hown := E.2.2.2.1
  have hT := E.2.2.2.2.2.2.2.1
  unfold fX6_isFitting at hf
  refine q_aload_n hx hb dX6_isFitting_0 rfl (lv_at hl 2 rfl) ?_
  obtain ⟨a_1, he_2, hf⟩ := q_biE hf
  subst he_2
  obtain ⟨hk_3, hf⟩ := q_gdE hf
  have hk_3 := q_keq hk_3
  refine q_getIN E hH (ci := 2) rfl 1 (by decide) kF_X6_112 (fun _ _ _ => rfl) hk_3 dX6_isFitting_1 ?_
  refine lv_topi (fun v3_4 hn_5 => ?_)
  replace hf := q_nmE hn_5 hf
  clear hn_5
  refine lv_istore_n (lv' := [(3, .int v3_4), (0, .ref h), (1, va_rf v1), (2, .ref a_1)]) hx hb dX6_isFitting_4 rfl hl (by decide) rfl (fun ls hl => ?_)
  refine q_aload_n hx hb dX6_isFitting_5 rfl (lv_at hl 2 rfl) ?_
  refine lv_iload_n hx hb dX6_isFitting_6 rfl (lv_at hl 0 rfl) ?_
  obtain ⟨a_6, he_7, hf⟩ := q_biE hf
  subst he_7
  obtain ⟨hk_8, hf⟩ := q_gdE hf
  have hk_8 := q_keq hk_8
  obtain ⟨r_9, hw_10, hf⟩ := q_biE hf
  refine q_cV (As := [.int v3_4]) (rest := []) (st1 := [.int r_9]) E hH (tX5_isThere l D cA z0 a_6 v3_4 Z M r_9 hw_10) mw_X5_isThere mi_X5_isThere (ci := 5) rfl ms_X5_isThere kM_X6_170 hk_8 hcc rfl rfl rfl hl.1 rfl rfl (Nat.le_of_ble_eq_true rfl) ⟨Nat.le_trans (by decide) hR.1, Nat.le_trans (by decide) hR.2⟩ dX6_isFitting_7 (fun H locs hH => ?_)
  refine lv_if_eq (tgt := 43) hx hb dX6_isFitting_10 (by decide) (fun cc_25 => ?_) (fun cc_25 => ?_)
  · replace hf := q_ifT cc_25 hf
    clear cc_25
    exact bX6_isFitting_43 E hR hcc h Z M _ _ _ _ hf hH (lv_sub hl [] rfl)
  · replace hf := q_ifF cc_25 hf
    clear cc_25
    refine lv_aload_n hx hb dX6_isFitting_13 rfl (lv_at hl 3 rfl) ?_
    refine lv_aload_n hx hb dX6_isFitting_14 rfl (lv_at hl 1 rfl) ?_
    obtain ⟨hk_12, hf⟩ := q_gdE hf
    have hk_12 := q_keq hk_12
    refine q_getR E hH (ci := 6) rfl 1 (by decide) kF_X6_16 (fun _ _ _ => rfl) hk_12 dX6_isFitting_15 ?_
    obtain ⟨a_13, he_14, hf⟩ := q_biE hf
    rw [he_14]
    obtain ⟨hk_15, hf⟩ := q_gdE hf
    have hk_15 := q_keq hk_15
    refine q_getRN E hH (ci := 3) rfl 0 (by decide) kF_X6_90 (fun _ _ _ => rfl) hk_15 dX6_isFitting_18 ?_
    obtain ⟨a_16, he_17, hf⟩ := q_biE hf
    rw [he_17]
    refine lv_aload_n hx hb dX6_isFitting_21 rfl (lv_at hl 2 rfl) ?_
    refine lv_iload_n hx hb dX6_isFitting_22 rfl (lv_at hl 0 rfl) ?_
    obtain ⟨r_18, hw_19, hf⟩ := q_biE hf
    refine q_cV (As := [.int v3_4]) (rest := [.ref a_16, .ref a_1]) (st1 := [.int r_18, .ref a_16, .ref a_1]) E hH (tX5_xAt l D cA z0 a_6 v3_4 Z M r_18 hw_19) mw_X5_xAt mi_X5_xAt (ci := 5) rfl ms_X5_xAt kM_X6_173 hk_8 hcc rfl rfl rfl hl.1 rfl rfl (Nat.le_of_ble_eq_true rfl) ⟨Nat.le_trans (by decide) hR.1, Nat.le_trans (by decide) hR.2⟩ dX6_isFitting_23 (fun H locs hH => ?_)
    refine lv_i2l hx hb dX6_isFitting_26 rfl ?_
    refine lv_aload_n hx hb dX6_isFitting_27 rfl (lv_at hl 2 rfl) ?_
    refine lv_iload_n hx hb dX6_isFitting_28 rfl (lv_at hl 0 rfl) ?_
    obtain ⟨r_20, hw_21, hf⟩ := q_biE hf
    refine q_cV (As := [.int v3_4]) (rest := [.long r_18.toInt64, .ref a_16, .ref a_1]) (st1 := [.int r_20, .long r_18.toInt64, .ref a_16, .ref a_1]) E hH (tX5_yAt l D cA z0 a_6 v3_4 Z M r_20 hw_21) mw_X5_yAt mi_X5_yAt (ci := 5) rfl ms_X5_yAt kM_X6_177 hk_8 hcc rfl rfl rfl hl.1 rfl rfl (Nat.le_of_ble_eq_true rfl) ⟨Nat.le_trans (by decide) hR.1, Nat.le_trans (by decide) hR.2⟩ dX6_isFitting_29 (fun H locs hH => ?_)
    refine lv_i2l hx hb dX6_isFitting_32 rfl ?_
    obtain ⟨r_22, hw_23, hf⟩ := q_biE hf
    refine q_cV (As := [.ref a_16, .long r_18.toInt64, .long r_20.toInt64]) (rest := []) (st1 := [.int r_22]) E hH (tX2_takes l D cA z0 a_1 (some a_16) r_18.toInt64 r_20.toInt64 Z M r_22 hw_23) mw_X2_takes mi_X2_takes (ci := 2) rfl ms_X2_takes kM_X6_257 hk_3 hcc rfl rfl rfl hl.1 rfl rfl (Nat.le_of_ble_eq_true rfl) ⟨Nat.le_trans (by decide) hR.1, Nat.le_trans (by decide) hR.2⟩ dX6_isFitting_33 (fun H locs hH => ?_)
    refine lv_if_eq (tgt := 43) hx hb dX6_isFitting_36 (by decide) (fun cc_24 => ?_) (fun cc_24 => ?_)
    · replace hf := q_ifT cc_24 hf
      clear cc_24
      exact bX6_isFitting_43 E hR hcc h Z M _ _ _ _ hf hH (lv_sub hl [] rfl)
    · replace hf := q_ifF cc_24 hf
      clear cc_24
      refine lv_iconst (v := 1) hx hb dX6_isFitting_39 (by decide) ?_
      refine lv_goto (tgt := 44) hx hb dX6_isFitting_40 (by decide) ?_
      exact bX6_isFitting_44 E hR hcc h (1 : Int32) Z M _ _ _ _ hf hH (lv_sub hl [] rfl)
set_option maxRecDepth 100000 in
theorem tX6_isFitting (l : Launch) (D : va_G) (cA : Nat → ClassId) (z0 : Nat) (h : Nat) (v1 : Option Nat) (v2 : Option Nat) (Z : q_Z) (M : q_C) (r : Int32) (hf : fX6_isFitting h v1 v2 Z M = some r) : q_Ct l D cA z0 yX6_isFitting cX6_isFitting 4 (some .boolean) 3 76 [.ref h, va_rf v1, va_rf v2] Z M (some (.int r)) Z M 0 0 := by
  cases v1 <;>
  cases v2 <;>
  (refine q_start (plainFor_of_name (by decide)) (Nat.le_of_ble_eq_true rfl) (fun p e s m below meth c H ls E hH hl => ?_); exact bX6_isFitting_0 E ⟨Nat.le_refl _, Nat.le_refl _⟩ ⟨Nat.le_refl _, Nat.le_refl _⟩ h _ _ Z M H [] ls r hf hH hl)
def fX6_look_b93 (h : Nat) (v1 : Int32) (v2 : Int32) (v3 : Int32) (v4 : Int32) (Z : q_Z) (M : q_C) : Option ((Int32 × q_C) ⊕ q_C) :=
  q_nm (v4 + (1 : Int32)) fun v4_27 =>
  some (Sum.inl (v4_27, M))
set_option maxHeartbeats 4000000 in
set_option maxRecDepth 100000 in
theorem bX6_look_93 {cells slots : Nat} {Q : State → Prop} (E : q_E p s m meth c cX6_look 6 RX6 none "look" D cA) (hR : 2 ≤ R.frames ∧ 43 ≤ R.locals) (hcc : cells ≤ R.cells ∧ slots ≤ R.slots) (h : Nat) (v1 : Int32) (v2 : Int32) (v3 : Int32) (v4 : Int32) (Z : q_Z) (M : q_C) (H : Heap) (locs : List Loc) (ls : Array Slot) (o : (Int32 × q_C) ⊕ q_C) (hf : fX6_look_b93 h v1 v2 v3 v4 Z M = some o) (hH : q_Hh D cA z0 s Z M H locs) (hl : lv_has ls 6 [(0, .ref h), (1, .int v1), (2, .int v2), (3, .int v3), (4, .int v4)]) (kb : ∀ (w4 : Int32) (M1 : q_C) (H : Heap) (locs : List Loc) (ls : Array Slot), Sum.inl (w4, M1) = o → q_Hh D cA z0 s Z M1 H locs → lv_has ls 6 [(0, .ref h), (1, .int v1), (2, .int v2), (3, .int v3), (4, .int w4)] → W p l e R s m args below meth c H locs cells slots Q (F0 m 35 ls [])) (kx0 : ∀ (M1 : q_C) (H : Heap) (locs : List Loc) (ls : Array Slot), Sum.inr M1 = o → q_Hh D cA z0 s Z M1 H locs → lv_has ls 6 [] → W p l e R s m args below meth c H locs cells slots Q (F0 m 99 ls [])) : W p l e R s m args below meth c H locs cells slots Q (F0 m 93 ls []) := by
  have hx := E.1
  have hb := E.2.1
  have hown := E.2.2.2.1
  have hT := E.2.2.2.2.2.2.2.1
  unfold fX6_look_b93 at hf
  obtain ⟨v4_27, hn_28⟩ : ∃ y : Int32, y = v4 + (1 : Int32) := ⟨_, rfl⟩
  replace hf := q_nmE hn_28 hf
  refine lv_iinc (v := v4_27) (lv' := [(4, .int v4_27), (0, .ref h), (1, .int v1), (2, .int v2), (3, .int v3)]) hx hb dX6_look_93 hl (k := 4) rfl (by rw [hn_28]; rfl) (by decide) rfl (fun ls hl => ?_)
  clear hn_28
  refine lv_goto (tgt := 35) hx hb dX6_look_96 (by decide) ?_
  cases hf
  exact kb v4_27 M _ _ _ rfl hH (lv_sub hl [1, 2, 3, 4, 0] rfl)
def fX6_look_L35 (h : Nat) (v1 : Int32) (v2 : Int32) (v3 : Int32) (v4 : Int32) (Z : q_Z) (M : q_C) : Option ((Int32 × q_C) ⊕ q_C) :=
  q_gd (zK Z h == 16) <|
  if gI M h 10 ≤ v4 then
    some (Sum.inr M)
  else
    Option.bind (fX6_keptWay h v4 Z M) fun r_23 =>
    q_on r_23 (
      fX6_look_b93 h v1 v2 v3 v4 Z M
    ) fun a_26 =>
      q_gd (zK Z a_26 == 15) <|
      Option.bind (fX5_isThere a_26 v1 Z M) fun r_30 =>
      if r_30 = 0 then
        fX6_look_b93 h v1 v2 v3 v4 Z M
      else
        Option.bind (gR M h 14) fun a_32 =>
        Option.bind (fX5_xAt a_26 v1 Z M) fun r_34 =>
        Option.bind (fX5_yAt a_26 v1 Z M) fun r_36 =>
        q_gd (zK Z a_32 == 11) <|
        Option.bind (fX1_take a_32 v4 ((r_34 - v2).toInt64) ((r_36 - v3).toInt64) Z M) fun M_40 =>
        fX6_look_b93 h v1 v2 v3 v4 Z M_40
set_option maxHeartbeats 4000000 in
set_option maxRecDepth 100000 in
theorem lX6_look_35 {cells slots : Nat} {Q : State → Prop} (E : q_E p s m meth c cX6_look 6 RX6 none "look" D cA) (hR : 2 ≤ R.frames ∧ 43 ≤ R.locals) (hcc : cells ≤ R.cells ∧ slots ≤ R.slots)  (h : Nat) (v1 : Int32) (v2 : Int32) (v3 : Int32) (Z : q_Z) : ∀ (n : Nat) (v4 : Int32) (M : q_C) (H : Heap) (locs : List Loc) (ls : Array Slot) (r : q_C), q_it (fun x => fX6_look_L35 h v1 v2 v3 x.1 Z x.2) n (v4, M) = some r → q_Hh D cA z0 s Z M H locs → lv_has ls 6 [(0, .ref h), (1, .int v1), (2, .int v2), (3, .int v3), (4, .int v4)] → (kx0 : ∀ (M1 : q_C) (H : Heap) (locs : List Loc) (ls : Array Slot), M1 = r → q_Hh D cA z0 s Z M1 H locs → lv_has ls 6 [] → W p l e R s m args below meth c H locs cells slots Q (F0 m 99 ls [])) → W p l e R s m args below meth c H locs cells slots Q (F0 m 35 ls []) := by
  have hx := E.1
  have hb := E.2.1
  have hown := E.2.2.2.1
  have hT := E.2.2.2.2.2.2.2.1
  intro n
  induction n with
  | zero =>
    intro v4 M H locs ls r hf
    cases hf
  | succ n ih =>
    intro v4 M H locs ls r hf hH hl ky0
    obtain ⟨n1, o, hn, hf, ho⟩ := q_itE hf
    cases hn
    have hf : fX6_look_L35 h v1 v2 v3 v4 Z M = some o := hf
    have kb : ∀ (w4 : Int32) (M1 : q_C) (H : Heap) (locs : List Loc) (ls : Array Slot), Sum.inl (w4, M1) = o → q_Hh D cA z0 s Z M1 H locs → lv_has ls 6 [(0, .ref h), (1, .int v1), (2, .int v2), (3, .int v3), (4, .int w4)] → W p l e R s m args below meth c H locs cells slots Q (F0 m 35 ls []) := by
      intro w4 M1 H locs ls e hH hl
      subst e
      exact ih w4 M1 H locs ls r ho hH hl ky0
    have kx0 : ∀ (M1 : q_C) (H : Heap) (locs : List Loc) (ls : Array Slot), Sum.inr M1 = o → q_Hh D cA z0 s Z M1 H locs → lv_has ls 6 [] → W p l e R s m args below meth c H locs cells slots Q (F0 m 99 ls []) := by
      intro M1 H locs ls e hH hl
      subst e
      exact ky0 M1 H locs ls ho hH hl
    unfold fX6_look_L35 at hf
    refine lv_iload hx hb dX6_look_35 (lv_at hl 4 rfl) ?_
    refine lv_aload_n hx hb dX6_look_37 rfl (lv_at hl 0 rfl) ?_
    obtain ⟨hk_22, hf⟩ := q_gdE hf
    have hk_22 := q_keq hk_22
    refine q_getI E hH (ci := 6) rfl 10 (by decide) kF_X6_50 (fun _ _ _ => rfl) hk_22 dX6_look_38 ?_
    refine lv_icmp_ge (tgt := 99) hx hb dX6_look_41 (by decide) (fun cc_42 => ?_) (fun cc_42 => ?_)
    · replace hf := q_ifT cc_42 hf
      clear cc_42
      cases hf
      exact kx0 M _ _ _ rfl hH (lv_sub hl [] rfl)
    · replace hf := q_ifF cc_42 hf
      clear cc_42
      refine lv_aload_n hx hb dX6_look_44 rfl (lv_at hl 0 rfl) ?_
      refine lv_iload hx hb dX6_look_45 (lv_at hl 4 rfl) ?_
      obtain ⟨r_23, hw_24, hf⟩ := q_biE hf
      refine q_cV (As := [.int v4]) (rest := []) (st1 := [va_rf r_23]) E hH (tX6_keptWay l D cA z0 h v4 Z M r_23 hw_24) mw_X6_keptWay mi_X6_keptWay (ci := 6) rfl ms_X6_keptWay kM_X6_143 hk_22 hcc rfl rfl rfl hl.1 rfl rfl (Nat.le_of_ble_eq_true rfl) ⟨Nat.le_trans (by decide) hR.1, Nat.le_trans (by decide) hR.2⟩ dX6_look_47 (fun H locs hH => ?_)
      refine q_astore (lv' := [(5, va_rf r_23), (0, .ref h), (1, .int v1), (2, .int v2), (3, .int v3), (4, .int v4)]) hx hb dX6_look_50 hl (by decide) rfl (fun ls hl => ?_)
      refine q_aload hx hb dX6_look_52 (lv_at hl 0 rfl) ?_
      refine q_ifnull (tgt := 93) hx hb dX6_look_54 (by decide) hf (fun cc_25 hf => ?_) (fun a_26 cc_25 hf => ?_)
      · subst cc_25
        exact bX6_look_93 E hR hcc h v1 v2 v3 v4 Z M _ _ _ _ hf hH (lv_sub hl [1, 2, 3, 4, 5] rfl) kb kx0
      · subst cc_25
        refine lv_aload hx hb dX6_look_57 (lv_at hl 0 rfl) ?_
        refine lv_iload_n hx hb dX6_look_59 rfl (lv_at hl 2 rfl) ?_
        obtain ⟨hk_29, hf⟩ := q_gdE hf
        have hk_29 := q_keq hk_29
        obtain ⟨r_30, hw_31, hf⟩ := q_biE hf
        refine q_cV (As := [.int v1]) (rest := []) (st1 := [.int r_30]) E hH (tX5_isThere l D cA z0 a_26 v1 Z M r_30 hw_31) mw_X5_isThere mi_X5_isThere (ci := 5) rfl ms_X5_isThere kM_X6_170 hk_29 hcc rfl rfl rfl hl.1 rfl rfl (Nat.le_of_ble_eq_true rfl) ⟨Nat.le_trans (by decide) hR.1, Nat.le_trans (by decide) hR.2⟩ dX6_look_60 (fun H locs hH => ?_)
        refine lv_if_eq (tgt := 93) hx hb dX6_look_63 (by decide) (fun cc_41 => ?_) (fun cc_41 => ?_)
        · replace hf := q_ifT cc_41 hf
          clear cc_41
          exact bX6_look_93 E hR hcc h v1 v2 v3 v4 Z M _ _ _ _ hf hH (lv_sub hl [1, 2, 3, 4, 5] rfl) kb kx0
        · replace hf := q_ifF cc_41 hf
          clear cc_41
          refine lv_aload_n hx hb dX6_look_66 rfl (lv_at hl 1 rfl) ?_
          refine q_getR E hH (ci := 6) rfl 14 (by decide) kF_X6_71 (fun _ _ _ => rfl) hk_22 dX6_look_67 ?_
          obtain ⟨a_32, he_33, hf⟩ := q_biE hf
          rw [he_33]
          refine lv_iload hx hb dX6_look_70 (lv_at hl 5 rfl) ?_
          refine lv_aload hx hb dX6_look_72 (lv_at hl 0 rfl) ?_
          refine lv_iload_n hx hb dX6_look_74 rfl (lv_at hl 2 rfl) ?_
          obtain ⟨r_34, hw_35, hf⟩ := q_biE hf
          refine q_cV (As := [.int v1]) (rest := [.int v4, .ref a_32]) (st1 := [.int r_34, .int v4, .ref a_32]) E hH (tX5_xAt l D cA z0 a_26 v1 Z M r_34 hw_35) mw_X5_xAt mi_X5_xAt (ci := 5) rfl ms_X5_xAt kM_X6_173 hk_29 hcc rfl rfl rfl hl.1 rfl rfl (Nat.le_of_ble_eq_true rfl) ⟨Nat.le_trans (by decide) hR.1, Nat.le_trans (by decide) hR.2⟩ dX6_look_75 (fun H locs hH => ?_)
          refine lv_iload_n hx hb dX6_look_78 rfl (lv_at hl 3 rfl) ?_
          refine lv_isub hx hb dX6_look_79 ?_
          refine lv_i2l hx hb dX6_look_80 rfl ?_
          refine lv_aload hx hb dX6_look_81 (lv_at hl 0 rfl) ?_
          refine lv_iload_n hx hb dX6_look_83 rfl (lv_at hl 2 rfl) ?_
          obtain ⟨r_36, hw_37, hf⟩ := q_biE hf
          refine q_cV (As := [.int v1]) (rest := [.long ((r_34 - v2).toInt64), .int v4, .ref a_32]) (st1 := [.int r_36, .long ((r_34 - v2).toInt64), .int v4, .ref a_32]) E hH (tX5_yAt l D cA z0 a_26 v1 Z M r_36 hw_37) mw_X5_yAt mi_X5_yAt (ci := 5) rfl ms_X5_yAt kM_X6_177 hk_29 hcc rfl rfl rfl hl.1 rfl rfl (Nat.le_of_ble_eq_true rfl) ⟨Nat.le_trans (by decide) hR.1, Nat.le_trans (by decide) hR.2⟩ dX6_look_84 (fun H locs hH => ?_)
          refine lv_iload_n hx hb dX6_look_87 rfl (lv_at hl 4 rfl) ?_
          refine lv_isub hx hb dX6_look_88 ?_
          refine lv_i2l hx hb dX6_look_89 rfl ?_
          obtain ⟨hk_38, hf⟩ := q_gdE hf
          have hk_38 := q_keq hk_38
          obtain ⟨M_40, hw_39, hf⟩ := q_biE hf
          refine q_cV (As := [.int v4, .long ((r_34 - v2).toInt64), .long ((r_36 - v3).toInt64)]) (rest := []) (st1 := []) E hH (tX1_take l D cA z0 a_32 v4 ((r_34 - v2).toInt64) ((r_36 - v3).toInt64) Z M M_40 hw_39) mw_X1_take mi_X1_take (ci := 1) rfl ms_X1_take kM_X6_262 hk_38 hcc rfl rfl rfl hl.1 rfl rfl (Nat.le_of_ble_eq_true rfl) ⟨Nat.le_trans (by decide) hR.1, Nat.le_trans (by decide) hR.2⟩ dX6_look_90 (fun H locs hH => ?_)
          exact bX6_look_93 E hR hcc h v1 v2 v3 v4 Z M_40 _ _ _ _ hf hH (lv_sub hl [1, 2, 3, 4, 5] rfl) kb kx0
def fX6_look (h : Nat) (v1 : Int32) (Z : q_Z) (M : q_C) : Option (q_C) :=
  q_gd (zK Z h == 16) <|
  Option.bind (gR M h 1) fun a_2 =>
  q_gd (zK Z a_2 == 13) <|
  Option.bind (gR M a_2 0) fun a_5 =>
  q_gd (zK Z a_5 == 14) <|
  Option.bind (fX4_xAt a_5 v1 Z M) fun r_8 =>
  Option.bind (gR M h 1) fun a_10 =>
  q_gd (zK Z a_10 == 13) <|
  Option.bind (gR M a_10 0) fun a_13 =>
  q_gd (zK Z a_13 == 14) <|
  Option.bind (fX4_yAt a_13 v1 Z M) fun r_16 =>
  Option.bind (gR M h 14) fun a_18 =>
  q_gd (zK Z a_18 == 11) <|
  q_nm (sI M a_18 3 (0 : Int32)) fun M_21 =>
  Option.bind (q_it (fun x => fX6_look_L35 h v1 r_8 r_16 x.1 Z x.2) q_FU ((0 : Int32), M_21)) fun r_43 =>
  q_nm r_43 fun M_45 =>
  some M_45
set_option maxHeartbeats 4000000 in
set_option maxRecDepth 100000 in
theorem bX6_look_0 {cells slots : Nat} (E : q_E p s m meth c cX6_look 6 RX6 none "look" D cA) (hR : 2 ≤ R.frames ∧ 43 ≤ R.locals) (hcc : cells ≤ R.cells ∧ slots ≤ R.slots) (h : Nat) (v1 : Int32) (Z : q_Z) (M : q_C) (H : Heap) (locs : List Loc) (ls : Array Slot) (M' : q_C) (hf : fX6_look h v1 Z M = some M') (hH : q_Hh D cA z0 s Z M H locs) (hl : lv_has ls 6 [(0, .ref h), (1, .int v1)])  : W p l e R s m args below meth c H locs cells slots (MQ below (q_Q D cA z0 none Z M') args s cells slots (fun q => z0 ≤ q)) (F0 m 0 ls []) := by
  have hx := E.1
  have hb := E.2.1
  have hown := E.2.2.2.1
  have hT := E.2.2.2.2.2.2.2.1
  unfold fX6_look at hf
  refine lv_aload_n hx hb dX6_look_0 rfl (lv_at hl 0 rfl) ?_
  obtain ⟨hk_1, hf⟩ := q_gdE hf
  have hk_1 := q_keq hk_1
  refine q_getR E hH (ci := 6) rfl 1 (by decide) kF_X6_16 (fun _ _ _ => rfl) hk_1 dX6_look_1 ?_
  obtain ⟨a_2, he_3, hf⟩ := q_biE hf
  rw [he_3]
  obtain ⟨hk_4, hf⟩ := q_gdE hf
  have hk_4 := q_keq hk_4
  refine q_getRN E hH (ci := 3) rfl 0 (by decide) kF_X6_90 (fun _ _ _ => rfl) hk_4 dX6_look_4 ?_
  obtain ⟨a_5, he_6, hf⟩ := q_biE hf
  rw [he_6]
  refine lv_iload_n hx hb dX6_look_7 rfl (lv_at hl 1 rfl) ?_
  obtain ⟨hk_7, hf⟩ := q_gdE hf
  have hk_7 := q_keq hk_7
  obtain ⟨r_8, hw_9, hf⟩ := q_biE hf
  refine q_cV (As := [.int v1]) (rest := []) (st1 := [.int r_8]) E hH (tX4_xAt l D cA z0 a_5 v1 Z M r_8 hw_9) mw_X4_xAt mi_X4_xAt (ci := 4) rfl ms_X4_xAt kM_X6_234 hk_7 hcc rfl rfl rfl hl.1 rfl rfl (Nat.le_of_ble_eq_true rfl) ⟨Nat.le_trans (by decide) hR.1, Nat.le_trans (by decide) hR.2⟩ dX6_look_8 (fun H locs hH => ?_)
  refine lv_istore_n (lv' := [(2, .int r_8), (0, .ref h), (1, .int v1)]) hx hb dX6_look_11 rfl hl (by decide) rfl (fun ls hl => ?_)
  refine lv_aload_n hx hb dX6_look_12 rfl (lv_at hl 1 rfl) ?_
  refine q_getR E hH (ci := 6) rfl 1 (by decide) kF_X6_16 (fun _ _ _ => rfl) hk_1 dX6_look_13 ?_
  obtain ⟨a_10, he_11, hf⟩ := q_biE hf
  rw [he_11]
  obtain ⟨hk_12, hf⟩ := q_gdE hf
  have hk_12 := q_keq hk_12
  refine q_getRN E hH (ci := 3) rfl 0 (by decide) kF_X6_90 (fun _ _ _ => rfl) hk_12 dX6_look_16 ?_
  obtain ⟨a_13, he_14, hf⟩ := q_biE hf
  rw [he_14]
  refine lv_iload_n hx hb dX6_look_19 rfl (lv_at hl 2 rfl) ?_
  obtain ⟨hk_15, hf⟩ := q_gdE hf
  have hk_15 := q_keq hk_15
  obtain ⟨r_16, hw_17, hf⟩ := q_biE hf
  refine q_cV (As := [.int v1]) (rest := []) (st1 := [.int r_16]) E hH (tX4_yAt l D cA z0 a_13 v1 Z M r_16 hw_17) mw_X4_yAt mi_X4_yAt (ci := 4) rfl ms_X4_yAt kM_X6_241 hk_15 hcc rfl rfl rfl hl.1 rfl rfl (Nat.le_of_ble_eq_true rfl) ⟨Nat.le_trans (by decide) hR.1, Nat.le_trans (by decide) hR.2⟩ dX6_look_20 (fun H locs hH => ?_)
  refine lv_istore_n (lv' := [(3, .int r_16), (2, .int r_8), (0, .ref h), (1, .int v1)]) hx hb dX6_look_23 rfl hl (by decide) rfl (fun ls hl => ?_)
  refine lv_aload_n hx hb dX6_look_24 rfl (lv_at hl 2 rfl) ?_
  refine q_getR E hH (ci := 6) rfl 14 (by decide) kF_X6_71 (fun _ _ _ => rfl) hk_1 dX6_look_25 ?_
  obtain ⟨a_18, he_19, hf⟩ := q_biE hf
  rw [he_19]
  refine lv_iconst (v := 0) hx hb dX6_look_28 (by decide) ?_
  obtain ⟨hk_20, hf⟩ := q_gdE hf
  have hk_20 := q_keq hk_20
  refine q_putIN E hH (ci := 1) rfl 3 (by decide) kF_X6_261 rfl (fun _ _ _ => rfl) (x := (0 : Int32)) hk_20 rfl rfl dX6_look_29 hf (fun M_21 H locs hH hf => ?_)
  refine lv_iconst (v := 0) hx hb dX6_look_32 (by decide) ?_
  refine lv_istore (lv' := [(4, .int (0 : Int32)), (3, .int r_16), (2, .int r_8), (0, .ref h), (1, .int v1)]) hx hb dX6_look_33 hl (by decide) rfl (fun ls hl => ?_)
  obtain ⟨r_43, hr_44, hf⟩ := q_biE hf
  refine lX6_look_35 E hR hcc h v1 r_8 r_16 Z q_FU (0 : Int32) M_21 _ _ _ r_43 hr_44 hH (lv_sub hl [3, 4, 2, 1, 0] rfl) (fun M_45 H locs ls he_46 hH hl => ?_)
  · subst he_46
    replace hf := q_nmE (x := M_45) rfl hf
    cases hf
    exact q_vret E hH dX6_look_99
set_option maxRecDepth 100000 in
theorem tX6_look (l : Launch) (D : va_G) (cA : Nat → ClassId) (z0 : Nat) (h : Nat) (v1 : Int32) (Z : q_Z) (M : q_C) (M' : q_C) (hf : fX6_look h v1 Z M = some M') : q_Ct l D cA z0 yX6_look cX6_look 6 none 2 43 [.ref h, .int v1] Z M none Z M' 0 0 := by
  (refine q_start (plainFor_of_name (by decide)) (Nat.le_of_ble_eq_true rfl) (fun p e s m below meth c H ls E hH hl => ?_); exact bX6_look_0 E ⟨Nat.le_refl _, Nat.le_refl _⟩ ⟨Nat.le_refl _, Nat.le_refl _⟩ h _ Z M H [] ls M' hf hH hl)
def fX6_widthAt (h : Nat) (v1 : Int32) (Z : q_Z) (M : q_C) : Option (Int32 × q_C) :=
  q_gd (zK Z h == 16) <|
  Option.bind (fX6_look h v1 Z M) fun M_3 =>
  Option.bind (gR M_3 h 14) fun a_4 =>
  q_gd (zK Z a_4 == 11) <|
  Option.bind (fX1_width a_4 Z M_3) fun r_7 =>
  some (r_7, M_3)
set_option maxHeartbeats 4000000 in
set_option maxRecDepth 100000 in
theorem bX6_widthAt_0 {cells slots : Nat} (E : q_E p s m meth c cX6_widthAt 2 RX6 (some .int) "widthAt" D cA) (hR : 5 ≤ R.frames ∧ 114 ≤ R.locals) (hcc : cells ≤ R.cells ∧ slots ≤ R.slots) (h : Nat) (v1 : Int32) (Z : q_Z) (M : q_C) (H : Heap) (locs : List Loc) (ls : Array Slot) (r : Int32) (M' : q_C) (hf : fX6_widthAt h v1 Z M = some (r, M')) (hH : q_Hh D cA z0 s Z M H locs) (hl : lv_has ls 2 [(0, .ref h), (1, .int v1)])  : W p l e R s m args below meth c H locs cells slots (MQ below (q_Q D cA z0 (some (.int r)) Z M') args s cells slots (fun q => z0 ≤ q)) (F0 m 0 ls []) := by
  have hx := E.1
  have hb := E.2.1
  have hown := E.2.2.2.1
  have hT := E.2.2.2.2.2.2.2.1
  unfold fX6_widthAt at hf
  refine lv_aload_n hx hb dX6_widthAt_0 rfl (lv_at hl 0 rfl) ?_
  refine lv_iload_n hx hb dX6_widthAt_1 rfl (lv_at hl 1 rfl) ?_
  obtain ⟨hk_1, hf⟩ := q_gdE hf
  have hk_1 := q_keq hk_1
  obtain ⟨M_3, hw_2, hf⟩ := q_biE hf
  refine q_cV (As := [.int v1]) (rest := []) (st1 := []) E hH (tX6_look l D cA z0 h v1 Z M M_3 hw_2) mw_X6_look mi_X6_look (ci := 6) rfl ms_X6_look kM_X6_190 hk_1 hcc rfl rfl rfl hl.1 rfl rfl (Nat.le_of_ble_eq_true rfl) ⟨Nat.le_trans (by decide) hR.1, Nat.le_trans (by decide) hR.2⟩ dX6_widthAt_2 (fun H locs hH => ?_)
  refine lv_aload_n hx hb dX6_widthAt_5 rfl (lv_at hl 0 rfl) ?_
  refine q_getR E hH (ci := 6) rfl 14 (by decide) kF_X6_71 (fun _ _ _ => rfl) hk_1 dX6_widthAt_6 ?_
  obtain ⟨a_4, he_5, hf⟩ := q_biE hf
  rw [he_5]
  obtain ⟨hk_6, hf⟩ := q_gdE hf
  have hk_6 := q_keq hk_6
  obtain ⟨r_7, hw_8, hf⟩ := q_biE hf
  refine q_cV (As := []) (rest := []) (st1 := [.int r_7]) E hH (tX1_width l D cA z0 a_4 Z M_3 r_7 hw_8) mw_X1_width mi_X1_width (ci := 1) rfl ms_X1_width kM_X6_266 hk_6 hcc rfl rfl rfl hl.1 rfl rfl (Nat.le_of_ble_eq_true rfl) ⟨Nat.le_trans (by decide) hR.1, Nat.le_trans (by decide) hR.2⟩ dX6_widthAt_9 (fun H locs hH => ?_)
  cases hf
  exact q_iret E hH dX6_widthAt_12
set_option maxRecDepth 100000 in
theorem tX6_widthAt (l : Launch) (D : va_G) (cA : Nat → ClassId) (z0 : Nat) (h : Nat) (v1 : Int32) (Z : q_Z) (M : q_C) (r : Int32) (M' : q_C) (hf : fX6_widthAt h v1 Z M = some (r, M')) : q_Ct l D cA z0 yX6_widthAt cX6_widthAt 2 (some .int) 5 114 [.ref h, .int v1] Z M (some (.int r)) Z M' 0 0 := by
  (refine q_start (plainFor_of_name (by decide)) (Nat.le_of_ble_eq_true rfl) (fun p e s m below meth c H ls E hH hl => ?_); exact bX6_widthAt_0 E ⟨Nat.le_refl _, Nat.le_refl _⟩ ⟨Nat.le_refl _, Nat.le_refl _⟩ h _ Z M H [] ls r M' hf hH hl)
def fX6_squareFromEarth_b12 (h : Nat) (Z : q_Z) (M : q_C) : Option (Int64) :=
  some (-1 : Int64)
set_option maxHeartbeats 4000000 in
set_option maxRecDepth 100000 in
theorem bX6_squareFromEarth_12 {cells slots : Nat} (E : q_E p s m meth c cX6_squareFromEarth 7 RX6 (some .long) "squareFromEarth" D cA) (hR : 2 ≤ R.frames ∧ 43 ≤ R.locals) (hcc : cells ≤ R.cells ∧ slots ≤ R.slots) (h : Nat) (Z : q_Z) (M : q_C) (H : Heap) (locs : List Loc) (ls : Array Slot) (r : Int64) (hf : fX6_squareFromEarth_b12 h Z M = some r) (hH : q_Hh D cA z0 s Z M H locs) (hl : lv_has ls 7 [])  : W p l e R s m args below meth c H locs cells slots (MQ below (q_Q D cA z0 (some (.long r)) Z M) args s cells slots (fun q => z0 ≤ q)) (F0 m 12 ls []) := by
  have hx := E.1
  have hb := E.2.1
  have hown := E.2.2.2.1
  have hT := E.2.2.2.2.2.2.2.1
  unfold fX6_squareFromEarth_b12 at hf
  refine lv_ldc2 hx hb hown (hT.1 _ _ kK_X6_201) dX6_squareFromEarth_12 ?_
  cases hf
  exact q_lret E hH dX6_squareFromEarth_15
def fX6_squareFromEarth (h : Nat) (v1 : Option Nat) (v2 : Int32) (Z : q_Z) (M : q_C) : Option (Int64) :=
  q_on v1 (
    fX6_squareFromEarth_b12 h Z M
  ) fun a_2 =>
    q_gd (zK Z a_2 == 15) <|
    Option.bind (fX5_isThere a_2 v2 Z M) fun r_4 =>
    if r_4 = 0 then
      fX6_squareFromEarth_b12 h Z M
    else
      Option.bind (fX5_xAt a_2 v2 Z M) fun r_6 =>
      q_gd (zK Z h == 16) <|
      Option.bind (gR M h 1) fun a_9 =>
      q_gd (zK Z a_9 == 13) <|
      Option.bind (gR M a_9 0) fun a_12 =>
      q_gd (zK Z a_12 == 14) <|
      Option.bind (fX4_xAt a_12 v2 Z M) fun r_15 =>
      q_nm ((r_6 - r_15).toInt64) fun v3_17 =>
      Option.bind (fX5_yAt a_2 v2 Z M) fun r_19 =>
      Option.bind (gR M h 1) fun a_21 =>
      q_gd (zK Z a_21 == 13) <|
      Option.bind (gR M a_21 0) fun a_24 =>
      q_gd (zK Z a_24 == 14) <|
      Option.bind (fX4_yAt a_24 v2 Z M) fun r_27 =>
      q_nm ((r_19 - r_27).toInt64) fun v5_29 =>
      some ((v3_17 * v3_17) + (v5_29 * v5_29))
set_option maxHeartbeats 4000000 in
set_option maxRecDepth 100000 in
theorem bX6_squareFromEarth_0 {cells slots : Nat} (E : q_E p s m meth c cX6_squareFromEarth 7 RX6 (some .long) "squareFromEarth" D cA) (hR : 2 ≤ R.frames ∧ 43 ≤ R.locals) (hcc : cells ≤ R.cells ∧ slots ≤ R.slots) (h : Nat) (v1 : Option Nat) (v2 : Int32) (Z : q_Z) (M : q_C) (H : Heap) (locs : List Loc) (ls : Array Slot) (r : Int64) (hf : fX6_squareFromEarth h v1 v2 Z M = some r) (hH : q_Hh D cA z0 s Z M H locs) (hl : lv_has ls 7 [(0, .ref h), (1, va_rf v1), (2, .int v2)])  : W p l e R s m args below meth c H locs cells slots (MQ below (q_Q D cA z0 (some (.long r)) Z M) args s cells slots (fun q => z0 ≤ q)) (F0 m 0 ls []) := by
  have hx := E.1
  have hb := E.2.1
  have hown := E.2.2.2.1
  have hT := E.2.2.2.2.2.2.2.1
  unfold fX6_squareFromEarth at hf
  refine q_aload_n hx hb dX6_squareFromEarth_0 rfl (lv_at hl 1 rfl) ?_
  refine q_ifnull (tgt := 12) hx hb dX6_squareFromEarth_1 (by decide) hf (fun cc_1 hf => ?_) (fun a_2 cc_1 hf => ?_)
  · subst cc_1
    exact bX6_squareFromEarth_12 E hR hcc h Z M _ _ _ _ hf hH (lv_sub hl [] rfl)
  · subst cc_1
    refine lv_aload_n hx hb dX6_squareFromEarth_4 rfl (lv_at hl 1 rfl) ?_
    refine lv_iload_n hx hb dX6_squareFromEarth_5 rfl (lv_at hl 2 rfl) ?_
    obtain ⟨hk_3, hf⟩ := q_gdE hf
    have hk_3 := q_keq hk_3
    obtain ⟨r_4, hw_5, hf⟩ := q_biE hf
    refine q_cV (As := [.int v2]) (rest := []) (st1 := [.int r_4]) E hH (tX5_isThere l D cA z0 a_2 v2 Z M r_4 hw_5) mw_X5_isThere mi_X5_isThere (ci := 5) rfl ms_X5_isThere kM_X6_170 hk_3 hcc rfl rfl rfl hl.1 rfl rfl (Nat.le_of_ble_eq_true rfl) ⟨Nat.le_trans (by decide) hR.1, Nat.le_trans (by decide) hR.2⟩ dX6_squareFromEarth_6 (fun H locs hH => ?_)
    refine lv_if_ne (tgt := 16) hx hb dX6_squareFromEarth_9 (by decide) (fun cc_31 => ?_) (fun cc_31 => ?_)
    · replace hf := q_ifF cc_31 hf
      clear cc_31
      refine lv_aload_n hx hb dX6_squareFromEarth_16 rfl (lv_at hl 1 rfl) ?_
      refine lv_iload_n hx hb dX6_squareFromEarth_17 rfl (lv_at hl 2 rfl) ?_
      obtain ⟨r_6, hw_7, hf⟩ := q_biE hf
      refine q_cV (As := [.int v2]) (rest := []) (st1 := [.int r_6]) E hH (tX5_xAt l D cA z0 a_2 v2 Z M r_6 hw_7) mw_X5_xAt mi_X5_xAt (ci := 5) rfl ms_X5_xAt kM_X6_173 hk_3 hcc rfl rfl rfl hl.1 rfl rfl (Nat.le_of_ble_eq_true rfl) ⟨Nat.le_trans (by decide) hR.1, Nat.le_trans (by decide) hR.2⟩ dX6_squareFromEarth_18 (fun H locs hH => ?_)
      refine lv_aload_n hx hb dX6_squareFromEarth_21 rfl (lv_at hl 0 rfl) ?_
      obtain ⟨hk_8, hf⟩ := q_gdE hf
      have hk_8 := q_keq hk_8
      refine q_getR E hH (ci := 6) rfl 1 (by decide) kF_X6_16 (fun _ _ _ => rfl) hk_8 dX6_squareFromEarth_22 ?_
      obtain ⟨a_9, he_10, hf⟩ := q_biE hf
      rw [he_10]
      obtain ⟨hk_11, hf⟩ := q_gdE hf
      have hk_11 := q_keq hk_11
      refine q_getRN E hH (ci := 3) rfl 0 (by decide) kF_X6_90 (fun _ _ _ => rfl) hk_11 dX6_squareFromEarth_25 ?_
      obtain ⟨a_12, he_13, hf⟩ := q_biE hf
      rw [he_13]
      refine lv_iload_n hx hb dX6_squareFromEarth_28 rfl (lv_at hl 2 rfl) ?_
      obtain ⟨hk_14, hf⟩ := q_gdE hf
      have hk_14 := q_keq hk_14
      obtain ⟨r_15, hw_16, hf⟩ := q_biE hf
      refine q_cV (As := [.int v2]) (rest := [.int r_6]) (st1 := [.int r_15, .int r_6]) E hH (tX4_xAt l D cA z0 a_12 v2 Z M r_15 hw_16) mw_X4_xAt mi_X4_xAt (ci := 4) rfl ms_X4_xAt kM_X6_234 hk_14 hcc rfl rfl rfl hl.1 rfl rfl (Nat.le_of_ble_eq_true rfl) ⟨Nat.le_trans (by decide) hR.1, Nat.le_trans (by decide) hR.2⟩ dX6_squareFromEarth_29 (fun H locs hH => ?_)
      refine lv_isub hx hb dX6_squareFromEarth_32 ?_
      refine lv_i2l hx hb dX6_squareFromEarth_33 rfl ?_
      refine lv_topl (fun v3_17 hn_18 => ?_)
      replace hf := q_nmE hn_18 hf
      clear hn_18
      refine lv_lstore_n (lv' := [(3, .long v3_17), (0, .ref h), (1, .ref a_2), (2, .int v2)]) hx hb dX6_squareFromEarth_34 rfl hl (by decide) rfl (fun ls hl => ?_)
      refine lv_aload_n hx hb dX6_squareFromEarth_35 rfl (lv_at hl 2 rfl) ?_
      refine lv_iload_n hx hb dX6_squareFromEarth_36 rfl (lv_at hl 3 rfl) ?_
      obtain ⟨r_19, hw_20, hf⟩ := q_biE hf
      refine q_cV (As := [.int v2]) (rest := []) (st1 := [.int r_19]) E hH (tX5_yAt l D cA z0 a_2 v2 Z M r_19 hw_20) mw_X5_yAt mi_X5_yAt (ci := 5) rfl ms_X5_yAt kM_X6_177 hk_3 hcc rfl rfl rfl hl.1 rfl rfl (Nat.le_of_ble_eq_true rfl) ⟨Nat.le_trans (by decide) hR.1, Nat.le_trans (by decide) hR.2⟩ dX6_squareFromEarth_37 (fun H locs hH => ?_)
      refine lv_aload_n hx hb dX6_squareFromEarth_40 rfl (lv_at hl 1 rfl) ?_
      refine q_getR E hH (ci := 6) rfl 1 (by decide) kF_X6_16 (fun _ _ _ => rfl) hk_8 dX6_squareFromEarth_41 ?_
      obtain ⟨a_21, he_22, hf⟩ := q_biE hf
      rw [he_22]
      obtain ⟨hk_23, hf⟩ := q_gdE hf
      have hk_23 := q_keq hk_23
      refine q_getRN E hH (ci := 3) rfl 0 (by decide) kF_X6_90 (fun _ _ _ => rfl) hk_23 dX6_squareFromEarth_44 ?_
      obtain ⟨a_24, he_25, hf⟩ := q_biE hf
      rw [he_25]
      refine lv_iload_n hx hb dX6_squareFromEarth_47 rfl (lv_at hl 3 rfl) ?_
      obtain ⟨hk_26, hf⟩ := q_gdE hf
      have hk_26 := q_keq hk_26
      obtain ⟨r_27, hw_28, hf⟩ := q_biE hf
      refine q_cV (As := [.int v2]) (rest := [.int r_19]) (st1 := [.int r_27, .int r_19]) E hH (tX4_yAt l D cA z0 a_24 v2 Z M r_27 hw_28) mw_X4_yAt mi_X4_yAt (ci := 4) rfl ms_X4_yAt kM_X6_241 hk_26 hcc rfl rfl rfl hl.1 rfl rfl (Nat.le_of_ble_eq_true rfl) ⟨Nat.le_trans (by decide) hR.1, Nat.le_trans (by decide) hR.2⟩ dX6_squareFromEarth_48 (fun H locs hH => ?_)
      refine lv_isub hx hb dX6_squareFromEarth_51 ?_
      refine lv_i2l hx hb dX6_squareFromEarth_52 rfl ?_
      refine lv_topl (fun v5_29 hn_30 => ?_)
      replace hf := q_nmE hn_30 hf
      clear hn_30
      refine lv_lstore (lv' := [(5, .long v5_29), (3, .long v3_17), (0, .ref h), (1, .ref a_2), (2, .int v2)]) hx hb dX6_squareFromEarth_53 hl (by decide) rfl (fun ls hl => ?_)
      refine lv_lload_n hx hb dX6_squareFromEarth_55 rfl (lv_at hl 1 rfl) ?_
      refine lv_lload_n hx hb dX6_squareFromEarth_56 rfl (lv_at hl 1 rfl) ?_
      refine lv_lmul hx hb dX6_squareFromEarth_57 ?_
      refine lv_lload hx hb dX6_squareFromEarth_58 (lv_at hl 0 rfl) ?_
      refine lv_lload hx hb dX6_squareFromEarth_60 (lv_at hl 0 rfl) ?_
      refine lv_lmul hx hb dX6_squareFromEarth_62 ?_
      refine lv_ladd hx hb dX6_squareFromEarth_63 ?_
      cases hf
      exact q_lret E hH dX6_squareFromEarth_64
    · replace hf := q_ifT cc_31 hf
      clear cc_31
      exact bX6_squareFromEarth_12 E hR hcc h Z M _ _ _ _ hf hH (lv_sub hl [] rfl)
set_option maxRecDepth 100000 in
theorem tX6_squareFromEarth (l : Launch) (D : va_G) (cA : Nat → ClassId) (z0 : Nat) (h : Nat) (v1 : Option Nat) (v2 : Int32) (Z : q_Z) (M : q_C) (r : Int64) (hf : fX6_squareFromEarth h v1 v2 Z M = some r) : q_Ct l D cA z0 yX6_squareFromEarth cX6_squareFromEarth 7 (some .long) 2 43 [.ref h, va_rf v1, .int v2] Z M (some (.long r)) Z M 0 0 := by
  cases v1 <;>
  (refine q_start (plainFor_of_name (by decide)) (Nat.le_of_ble_eq_true rfl) (fun p e s m below meth c H ls E hH hl => ?_); exact bX6_squareFromEarth_0 E ⟨Nat.le_refl _, Nat.le_refl _⟩ ⟨Nat.le_refl _, Nat.le_refl _⟩ h _ _ Z M H [] ls r hf hH hl)
def fX6_nearest (h : Nat) (Z : q_Z) (M : q_C) : Option (Int32) :=
  q_gd (zK Z h == 16) <|
  some (gI M h 11)
set_option maxHeartbeats 4000000 in
set_option maxRecDepth 100000 in
theorem bX6_nearest_0 {cells slots : Nat} (E : q_E p s m meth c cX6_nearest 1 RX6 (some .int) "nearest" D cA) (hR : 0 ≤ R.frames ∧ 0 ≤ R.locals) (hcc : cells ≤ R.cells ∧ slots ≤ R.slots) (h : Nat) (Z : q_Z) (M : q_C) (H : Heap) (locs : List Loc) (ls : Array Slot) (r : Int32) (hf : fX6_nearest h Z M = some r) (hH : q_Hh D cA z0 s Z M H locs) (hl : lv_has ls 1 [(0, .ref h)])  : W p l e R s m args below meth c H locs cells slots (MQ below (q_Q D cA z0 (some (.int r)) Z M) args s cells slots (fun q => z0 ≤ q)) (F0 m 0 ls []) := by
  have hx := E.1
  have hb := E.2.1
  have hown := E.2.2.2.1
  have hT := E.2.2.2.2.2.2.2.1
  unfold fX6_nearest at hf
  refine lv_aload_n hx hb dX6_nearest_0 rfl (lv_at hl 0 rfl) ?_
  obtain ⟨hk_1, hf⟩ := q_gdE hf
  have hk_1 := q_keq hk_1
  refine q_getI E hH (ci := 6) rfl 11 (by decide) kF_X6_53 (fun _ _ _ => rfl) hk_1 dX6_nearest_1 ?_
  cases hf
  exact q_iret E hH dX6_nearest_4
set_option maxRecDepth 100000 in
theorem tX6_nearest (l : Launch) (D : va_G) (cA : Nat → ClassId) (z0 : Nat) (h : Nat) (Z : q_Z) (M : q_C) (r : Int32) (hf : fX6_nearest h Z M = some r) : q_Ct l D cA z0 yX6_nearest cX6_nearest 1 (some .int) 0 0 [.ref h] Z M (some (.int r)) Z M 0 0 := by
  (refine q_start (plainFor_of_name (by decide)) (Nat.le_of_ble_eq_true rfl) (fun p e s m below meth c H ls E hH hl => ?_); exact bX6_nearest_0 E ⟨Nat.le_refl _, Nat.le_refl _⟩ ⟨Nat.le_refl _, Nat.le_refl _⟩ h Z M H [] ls r hf hH hl)
def fX6_all (h : Nat) (v1 : Int32) (Z : q_Z) (M : q_C) : Option (Int32) :=
  if v1 = 0 then
    q_gd (zK Z h == 16) <|
    some (gI M h 3)
  else
  if v1 = 1 then
    q_gd (zK Z h == 16) <|
    Option.bind (gR M h 0) fun a_3 =>
    q_gd (zK Z a_3 == 13) <|
    Option.bind (gR M a_3 0) fun a_6 =>
    q_gd (zK Z a_6 == 14) <|
    some (gI M a_6 2)
  else
  if v1 = 2 then
    q_gd (zK Z h == 16) <|
    Option.bind (gR M h 0) fun a_10 =>
    q_gd (zK Z a_10 == 13) <|
    Option.bind (gR M a_10 1) fun a_13 =>
    q_gd (zK Z a_13 == 14) <|
    some (gI M a_13 2)
  else
  if v1 = 3 then
    q_gd (zK Z h == 16) <|
    some (gI M h 10)
  else
  some (-1 : Int32)
set_option maxHeartbeats 4000000 in
set_option maxRecDepth 100000 in
theorem bX6_all_0 {cells slots : Nat} (E : q_E p s m meth c cX6_all 2 RX6 (some .int) "all" D cA) (hR : 0 ≤ R.frames ∧ 0 ≤ R.locals) (hcc : cells ≤ R.cells ∧ slots ≤ R.slots) (h : Nat) (v1 : Int32) (Z : q_Z) (M : q_C) (H : Heap) (locs : List Loc) (ls : Array Slot) (r : Int32) (hf : fX6_all h v1 Z M = some r) (hH : q_Hh D cA z0 s Z M H locs) (hl : lv_has ls 2 [(0, .ref h), (1, .int v1)])  : W p l e R s m args below meth c H locs cells slots (MQ below (q_Q D cA z0 (some (.int r)) Z M) args s cells slots (fun q => z0 ≤ q)) (F0 m 0 ls []) := by
  have hx := E.1
  have hb := E.2.1
  have hown := E.2.2.2.1
  have hT := E.2.2.2.2.2.2.2.1
  unfold fX6_all at hf
  refine lv_iload_n hx hb dX6_all_0 rfl (lv_at hl 1 rfl) ?_
  by_cases cs_17 : v1 = 0
  · replace hf := q_ifT cs_17 hf
    refine q_tin (tgt := 32) 0 hx hb dX6_all_1 cs_17 (by decide) (by decide) rfl (by decide) ?_
    refine lv_aload_n hx hb dX6_all_32 rfl (lv_at hl 0 rfl) ?_
    obtain ⟨hk_1, hf⟩ := q_gdE hf
    have hk_1 := q_keq hk_1
    refine q_getI E hH (ci := 6) rfl 3 (by decide) kF_X6_25 (fun _ _ _ => rfl) hk_1 dX6_all_33 ?_
    cases hf
    exact q_iret E hH dX6_all_36
  replace hf := q_ifF cs_17 hf
  by_cases cs_18 : v1 = 1
  · replace hf := q_ifT cs_18 hf
    refine q_tin (tgt := 37) 1 hx hb dX6_all_1 cs_18 (by decide) (by decide) rfl (by decide) ?_
    refine lv_aload_n hx hb dX6_all_37 rfl (lv_at hl 0 rfl) ?_
    obtain ⟨hk_2, hf⟩ := q_gdE hf
    have hk_2 := q_keq hk_2
    refine q_getR E hH (ci := 6) rfl 0 (by decide) kF_X6_12 (fun _ _ _ => rfl) hk_2 dX6_all_38 ?_
    obtain ⟨a_3, he_4, hf⟩ := q_biE hf
    rw [he_4]
    obtain ⟨hk_5, hf⟩ := q_gdE hf
    have hk_5 := q_keq hk_5
    refine q_getRN E hH (ci := 3) rfl 0 (by decide) kF_X6_90 (fun _ _ _ => rfl) hk_5 dX6_all_41 ?_
    obtain ⟨a_6, he_7, hf⟩ := q_biE hf
    rw [he_7]
    obtain ⟨hk_8, hf⟩ := q_gdE hf
    have hk_8 := q_keq hk_8
    refine q_getIN E hH (ci := 4) rfl 2 (by decide) kF_X6_215 (fun _ _ _ => rfl) hk_8 dX6_all_44 ?_
    cases hf
    exact q_iret E hH dX6_all_47
  replace hf := q_ifF cs_18 hf
  by_cases cs_19 : v1 = 2
  · replace hf := q_ifT cs_19 hf
    refine q_tin (tgt := 48) 2 hx hb dX6_all_1 cs_19 (by decide) (by decide) rfl (by decide) ?_
    refine lv_aload_n hx hb dX6_all_48 rfl (lv_at hl 0 rfl) ?_
    obtain ⟨hk_9, hf⟩ := q_gdE hf
    have hk_9 := q_keq hk_9
    refine q_getR E hH (ci := 6) rfl 0 (by decide) kF_X6_12 (fun _ _ _ => rfl) hk_9 dX6_all_49 ?_
    obtain ⟨a_10, he_11, hf⟩ := q_biE hf
    rw [he_11]
    obtain ⟨hk_12, hf⟩ := q_gdE hf
    have hk_12 := q_keq hk_12
    refine q_getRN E hH (ci := 3) rfl 1 (by decide) kF_X6_80 (fun _ _ _ => rfl) hk_12 dX6_all_52 ?_
    obtain ⟨a_13, he_14, hf⟩ := q_biE hf
    rw [he_14]
    obtain ⟨hk_15, hf⟩ := q_gdE hf
    have hk_15 := q_keq hk_15
    refine q_getIN E hH (ci := 4) rfl 2 (by decide) kF_X6_215 (fun _ _ _ => rfl) hk_15 dX6_all_55 ?_
    cases hf
    exact q_iret E hH dX6_all_58
  replace hf := q_ifF cs_19 hf
  by_cases cs_20 : v1 = 3
  · replace hf := q_ifT cs_20 hf
    refine q_tin (tgt := 59) 3 hx hb dX6_all_1 cs_20 (by decide) (by decide) rfl (by decide) ?_
    refine lv_aload_n hx hb dX6_all_59 rfl (lv_at hl 0 rfl) ?_
    obtain ⟨hk_16, hf⟩ := q_gdE hf
    have hk_16 := q_keq hk_16
    refine q_getI E hH (ci := 6) rfl 10 (by decide) kF_X6_50 (fun _ _ _ => rfl) hk_16 dX6_all_60 ?_
    cases hf
    exact q_iret E hH dX6_all_63
  replace hf := q_ifF cs_20 hf
  refine q_tout (tgt := 64) 4 hx hb dX6_all_1 rfl (fun k hk => match k, hk with | 0, _ => cs_17 | 1, _ => cs_18 | 2, _ => cs_19 | 3, _ => cs_20 | k + 4, hk => absurd hk (by omega)) (by decide) ?_
  refine lv_iconst (v := -1) hx hb dX6_all_64 (by decide) ?_
  cases hf
  exact q_iret E hH dX6_all_65
set_option maxRecDepth 100000 in
theorem tX6_all (l : Launch) (D : va_G) (cA : Nat → ClassId) (z0 : Nat) (h : Nat) (v1 : Int32) (Z : q_Z) (M : q_C) (r : Int32) (hf : fX6_all h v1 Z M = some r) : q_Ct l D cA z0 yX6_all cX6_all 2 (some .int) 0 0 [.ref h, .int v1] Z M (some (.int r)) Z M 0 0 := by
  (refine q_start (plainFor_of_name (by decide)) (Nat.le_of_ble_eq_true rfl) (fun p e s m below meth c H ls E hH hl => ?_); exact bX6_all_0 E ⟨Nat.le_refl _, Nat.le_refl _⟩ ⟨Nat.le_refl _, Nat.le_refl _⟩ h _ Z M H [] ls r hf hH hl)
end Q222
