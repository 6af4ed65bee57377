section Q242
variable {p : Program} {l : Launch} {e : Env} {R : Room} {s : State} {m : MethodId} {args : Array Value} {below : List Frame} {meth : Method} {c : Code} {D : va_G} {cA : Nat → ClassId} {z0 : Nat}
def fX6_search_b57 (h : Nat) (v1 : Int32) (v2 : Int32) (v3 : Int32) (v4 : Int32) (v5 : Int32) (Z : q_Z) (M : q_C) : Option ((Int32 × Int32 × q_Z × q_C) ⊕ (Int32 × q_Z × q_C)) :=
  q_nm (v5 + (1 : Int32)) fun v5_6 =>
  some (Sum.inl (v3, v5_6, Z, M))
theorem moX6_search_b57 (h : Nat) (v1 : Int32) (v2 : Int32) (v3 : Int32) (v4 : Int32) (v5 : Int32) (Z : q_Z) (M : q_C) (o : (Int32 × Int32 × q_Z × q_C) ⊕ (Int32 × q_Z × q_C)) (hf : fX6_search_b57 h v1 v2 v3 v4 v5 Z M = some o) : q_le Z (q_sm o (fun x => x.2.2.1) (fun x => x.2.1)) := by
  unfold fX6_search_b57 at hf
  replace hf := q_nmE (x := _) rfl hf
  cases hf
  exact q_le.rf
set_option maxHeartbeats 4000000 in
set_option maxRecDepth 100000 in
theorem bX6_search_57 {Q : State → Prop} (E : q_E p s m meth c cX6_search 6 RX6 (some .int) "search" D cA) (hR : 5 ≤ R.frames ∧ 132 ≤ R.locals) (Zi : q_Z) {Z : q_Z} (hi : q_le Zi Z) {o : (Int32 × Int32 × q_Z × q_C) ⊕ (Int32 × q_Z × q_C)} (hbd : zS (q_sm o (fun x => x.2.2.1) (fun x => x.2.1)) - zS Zi ≤ R.cells ∧ zC (q_sm o (fun x => x.2.2.1) (fun x => x.2.1)) - zC Zi ≤ R.slots)  (h : Nat) (v1 : Int32) (v2 : Int32) (v3 : Int32) (v4 : Int32) (v5 : Int32) (M : q_C) (H : Heap) (locs : List Loc) (ls : Array Slot) (hf : fX6_search_b57 h v1 v2 v3 v4 v5 Z M = some o) (hH : q_Hh D cA z0 s Z M H locs) (hl : lv_has ls 6 [(0, .ref h), (1, .int v1), (2, .int v2), (3, .int v3), (4, .int v4), (5, .int v5)]) (kb : ∀ (w3 : Int32) (w5 : Int32) (Z1 : q_Z) (M1 : q_C) (H : Heap) (locs : List Loc) (ls : Array Slot), Sum.inl (w3, w5, Z1, M1) = o → q_Hh D cA z0 s Z1 M1 H locs → lv_has ls 6 [(0, .ref h), (1, .int v1), (2, .int v2), (3, .int w3), (4, .int v4), (5, .int w5)] → q_le Zi Z1 → W p l e R s m args below meth c H locs (zS Z1 - zS Zi) (zC Z1 - zC Zi) Q (F0 m 17 ls [])) (kx0 : ∀ (w3 : Int32) (Z1 : q_Z) (M1 : q_C) (H : Heap) (locs : List Loc) (ls : Array Slot), Sum.inr (w3, Z1, M1) = o → q_Hh D cA z0 s Z1 M1 H locs → lv_has ls 6 [(0, .ref h), (1, .int v1), (2, .int v2), (3, .int w3), (4, .int v4)] → q_le Zi Z1 → W p l e R s m args below meth c H locs (zS Z1 - zS Zi) (zC Z1 - zC Zi) Q (F0 m 63 ls [])) : W p l e R s m args below meth c H locs (zS Z - zS Zi) (zC Z - zC Zi) Q (F0 m 57 ls []) := by
  have hx := E.1
  have hb := E.2.1
  have hown := E.2.2.2.1
  have hT := E.2.2.2.2.2.2.2.1
  have hcc := q_bd hi (moX6_search_b57 _ _ _ _ _ _ _ _ _ hf) hbd
  unfold fX6_search_b57 at hf
  obtain ⟨v5_6, hn_7⟩ : ∃ y : Int32, y = v5 + (1 : Int32) := ⟨_, rfl⟩
  replace hf := q_nmE hn_7 hf
  refine lv_iinc (v := v5_6) (lv' := [(5, .int v5_6), (0, .ref h), (1, .int v1), (2, .int v2), (3, .int v3), (4, .int v4)]) hx hb dX6_search_57 hl (k := 5) rfl (by rw [hn_7]; rfl) (by decide) rfl (fun ls hl => ?_)
  clear hn_7
  refine lv_goto (tgt := 17) hx hb dX6_search_60 (by decide) ?_
  cases hf
  exact kb v3 v5_6 Z M _ _ _ rfl hH (lv_sub hl [1, 2, 3, 4, 5, 0] rfl) hi
def fX6_search_b54 (h : Nat) (v1 : Int32) (v2 : Int32) (v3 : Int32) (v4 : Int32) (v5 : Int32) (Z : q_Z) (M : q_C) : Option ((Int32 × Int32 × q_Z × q_C) ⊕ (Int32 × q_Z × q_C)) :=
  q_nm (v3 + (1 : Int32)) fun v3_11 =>
  fX6_search_b57 h v1 v2 v3_11 v4 v5 Z M
theorem moX6_search_b54 (h : Nat) (v1 : Int32) (v2 : Int32) (v3 : Int32) (v4 : Int32) (v5 : Int32) (Z : q_Z) (M : q_C) (o : (Int32 × Int32 × q_Z × q_C) ⊕ (Int32 × q_Z × q_C)) (hf : fX6_search_b54 h v1 v2 v3 v4 v5 Z M = some o) : q_le Z (q_sm o (fun x => x.2.2.1) (fun x => x.2.1)) := by
  unfold fX6_search_b54 at hf
  replace hf := q_nmE (x := _) rfl hf
  exact moX6_search_b57 _ _ _ _ _ _ _ _ _ hf
set_option maxHeartbeats 4000000 in
set_option maxRecDepth 100000 in
theorem bX6_search_54 {Q : State → Prop} (E : q_E p s m meth c cX6_search 6 RX6 (some .int) "search" D cA) (hR : 5 ≤ R.frames ∧ 132 ≤ R.locals) (Zi : q_Z) {Z : q_Z} (hi : q_le Zi Z) {o : (Int32 × Int32 × q_Z × q_C) ⊕ (Int32 × q_Z × q_C)} (hbd : zS (q_sm o (fun x => x.2.2.1) (fun x => x.2.1)) - zS Zi ≤ R.cells ∧ zC (q_sm o (fun x => x.2.2.1) (fun x => x.2.1)) - zC Zi ≤ R.slots)  (h : Nat) (v1 : Int32) (v2 : Int32) (v3 : Int32) (v4 : Int32) (v5 : Int32) (M : q_C) (H : Heap) (locs : List Loc) (ls : Array Slot) (hf : fX6_search_b54 h v1 v2 v3 v4 v5 Z M = some o) (hH : q_Hh D cA z0 s Z M H locs) (hl : lv_has ls 6 [(0, .ref h), (1, .int v1), (2, .int v2), (3, .int v3), (4, .int v4), (5, .int v5)]) (kb : ∀ (w3 : Int32) (w5 : Int32) (Z1 : q_Z) (M1 : q_C) (H : Heap) (locs : List Loc) (ls : Array Slot), Sum.inl (w3, w5, Z1, M1) = o → q_Hh D cA z0 s Z1 M1 H locs → lv_has ls 6 [(0, .ref h), (1, .int v1), (2, .int v2), (3, .int w3), (4, .int v4), (5, .int w5)] → q_le Zi Z1 → W p l e R s m args below meth c H locs (zS Z1 - zS Zi) (zC Z1 - zC Zi) Q (F0 m 17 ls [])) (kx0 : ∀ (w3 : Int32) (Z1 : q_Z) (M1 : q_C) (H : Heap) (locs : List Loc) (ls : Array Slot), Sum.inr (w3, Z1, M1) = o → q_Hh D cA z0 s Z1 M1 H locs → lv_has ls 6 [(0, .ref h), (1, .int v1), (2, .int v2), (3, .int w3), (4, .int v4)] → q_le Zi Z1 → W p l e R s m args below meth c H locs (zS Z1 - zS Zi) (zC Z1 - zC Zi) Q (F0 m 63 ls [])) : W p l e R s m args below meth c H locs (zS Z - zS Zi) (zC Z - zC Zi) Q (F0 m 54 ls []) := by
  have hx := E.1
  have hb := E.2.1
  have hown := E.2.2.2.1
  have hT := E.2.2.2.2.2.2.2.1
  have hcc := q_bd hi (moX6_search_b54 _ _ _ _ _ _ _ _ _ hf) hbd
  unfold fX6_search_b54 at hf
  obtain ⟨v3_11, hn_12⟩ : ∃ y : Int32, y = v3 + (1 : Int32) := ⟨_, rfl⟩
  replace hf := q_nmE hn_12 hf
  refine lv_iinc (v := v3_11) (lv' := [(3, .int v3_11), (0, .ref h), (1, .int v1), (2, .int v2), (4, .int v4), (5, .int v5)]) hx hb dX6_search_54 hl (k := 3) rfl (by rw [hn_12]; rfl) (by decide) rfl (fun ls hl => ?_)
  clear hn_12
  exact bX6_search_57 E hR Zi hi hbd h v1 v2 v3_11 v4 v5 M _ _ _  hf hH (lv_sub hl [1, 2, 3, 0, 4, 5] rfl) kb kx0
def fX6_search_L17 (h : Nat) (v1 : Int32) (v2 : Int32) (v4 : Int32) (v3 : Int32) (v5 : Int32) (Z : q_Z) (M : q_C) : Option ((Int32 × Int32 × q_Z × q_C) ⊕ (Int32 × q_Z × q_C)) :=
  q_gd (zK Z h == 16) <|
  if gI M h 8 ≤ v5 then
    some (Sum.inr (v3, Z, M))
  else
    q_b2 (fX6_aim h v4 v5 Z M) fun r_3 M_5 =>
    if r_3 = 0 then
      fX6_search_b57 h v1 v2 v3 v4 v5 Z M_5
    else
      q_b2 (fX6_fitsAllBut h v1 Z M_5) fun r_8 M_10 =>
      if r_8 = 0 then
        fX6_search_b57 h v1 v2 v3 v4 v5 Z M_10
      else
        if v2 = 0 then
          fX6_search_b54 h v1 v2 v3 v4 v5 Z M_10
        else
          q_b2 (fX6_store h v3 Z M_10) fun Z_15 M_14 =>
          fX6_search_b54 h v1 v2 v3 v4 v5 Z_15 M_14
theorem moX6_search_L17 (h : Nat) (v1 : Int32) (v2 : Int32) (v4 : Int32) (v3 : Int32) (v5 : Int32) (Z : q_Z) (M : q_C) (o : (Int32 × Int32 × q_Z × q_C) ⊕ (Int32 × q_Z × q_C)) (hf : fX6_search_L17 h v1 v2 v4 v3 v5 Z M = some o) : q_le Z (q_sm o (fun x => x.2.2.1) (fun x => x.2.1)) := by
  unfold fX6_search_L17 at hf
  obtain ⟨-, hf⟩ := q_gdE hf
  rcases q_ifC hf with hf | hf
  · cases hf
    exact q_le.rf
  · obtain ⟨r_3, M_5, hw_4, hf⟩ := q_b2E hf
    rcases q_ifC hf with hf | hf
    · exact moX6_search_b57 _ _ _ _ _ _ _ _ _ hf
    · obtain ⟨r_8, M_10, hw_9, hf⟩ := q_b2E hf
      rcases q_ifC hf with hf | hf
      · exact moX6_search_b57 _ _ _ _ _ _ _ _ _ hf
      · rcases q_ifC hf with hf | hf
        · exact moX6_search_b54 _ _ _ _ _ _ _ _ _ hf
        · obtain ⟨Z_15, M_14, hw_13, hf⟩ := q_b2E hf
          have hq := moX6_store _ _ _ _ _ _ hw_13
          exact hq.tr (moX6_search_b54 _ _ _ _ _ _ _ _ _ hf)
theorem moX6_search_l17 (h : Nat) (v1 : Int32) (v2 : Int32) (v4 : Int32) (n : Nat) (x : Int32 × Int32 × q_Z × q_C) (r : (Int32 × q_Z × q_C)) (hf : q_it (fun x => fX6_search_L17 h v1 v2 v4 x.1 x.2.1 x.2.2.1 x.2.2.2) n x = some r) : q_le ((fun x => x.2.2.1) x) ((fun x => x.2.1) r) := by
  exact q_itmo _ (fun x => x.2.2.1) (fun x => x.2.1) (fun x o hx => moX6_search_L17 _ _ _ _ _ _ _ _ o hx) n x r hf
set_option maxHeartbeats 4000000 in
set_option maxRecDepth 100000 in
theorem lX6_search_17 {Q : State → Prop} (E : q_E p s m meth c cX6_search 6 RX6 (some .int) "search" D cA) (hR : 5 ≤ R.frames ∧ 132 ≤ R.locals) (Zi : q_Z)  (h : Nat) (v1 : Int32) (v2 : Int32) (v4 : Int32) : ∀ (n : Nat) (v3 : Int32) (v5 : Int32) (Z : q_Z) (M : q_C) (H : Heap) (locs : List Loc) (ls : Array Slot) (r : (Int32 × q_Z × q_C)), q_it (fun x => fX6_search_L17 h v1 v2 v4 x.1 x.2.1 x.2.2.1 x.2.2.2) n (v3, v5, Z, M) = some r → zS ((fun x => x.2.1) r) - zS Zi ≤ R.cells ∧ zC ((fun x => x.2.1) r) - zC Zi ≤ R.slots → q_Hh D cA z0 s Z M H locs → lv_has ls 6 [(0, .ref h), (1, .int v1), (2, .int v2), (3, .int v3), (4, .int v4), (5, .int v5)] → q_le Zi Z → (kx0 : ∀ (w3 : Int32) (Z1 : q_Z) (M1 : q_C) (H : Heap) (locs : List Loc) (ls : Array Slot), (w3, Z1, M1) = r → q_Hh D cA z0 s Z1 M1 H locs → lv_has ls 6 [(0, .ref h), (1, .int v1), (2, .int v2), (3, .int w3), (4, .int v4)] → q_le Zi Z1 → W p l e R s m args below meth c H locs (zS Z1 - zS Zi) (zC Z1 - zC Zi) Q (F0 m 63 ls [])) → W p l e R s m args below meth c H locs (zS Z - zS Zi) (zC Z - zC Zi) Q (F0 m 17 ls []) := by
  have hx := E.1
  have hb := E.2.1
  have hown := E.2.2.2.1
  have hT := E.2.2.2.2.2.2.2.1
  intro n
  induction n with
  | zero =>
    intro v3 v5 Z M H locs ls r hf
    cases hf
  | succ n ih =>
    intro v3 v5 Z M H locs ls r hf hbr hH hl hi ky0
    obtain ⟨n1, o, hn, hf, ho⟩ := q_itE hf
    cases hn
    have hf : fX6_search_L17 h v1 v2 v4 v3 v5 Z M = some o := hf
    have hbd : zS (q_sm o (fun x => x.2.2.1) (fun x => x.2.1)) - zS Zi ≤ R.cells ∧ zC (q_sm o (fun x => x.2.2.1) (fun x => x.2.1)) - zC Zi ≤ R.slots := by
      cases o with
      | inl y => exact q_bd (hi.tr (moX6_search_L17 _ _ _ _ _ _ _ _ _ hf)) (moX6_search_l17 _ _ _ _ _ _ _ ho) hbr
      | inr y => cases ho; exact hbr
    have hcc := q_bd hi (moX6_search_L17 _ _ _ _ _ _ _ _ _ hf) hbd
    have kb : ∀ (w3 : Int32) (w5 : Int32) (Z1 : q_Z) (M1 : q_C) (H : Heap) (locs : List Loc) (ls : Array Slot), Sum.inl (w3, w5, Z1, M1) = o → q_Hh D cA z0 s Z1 M1 H locs → lv_has ls 6 [(0, .ref h), (1, .int v1), (2, .int v2), (3, .int w3), (4, .int v4), (5, .int w5)] → q_le Zi Z1 → W p l e R s m args below meth c H locs (zS Z1 - zS Zi) (zC Z1 - zC Zi) Q (F0 m 17 ls []) := by
      intro w3 w5 Z1 M1 H locs ls e hH hl hi
      subst e
      exact ih w3 w5 Z1 M1 H locs ls r ho hbr hH hl hi ky0
    have kx0 : ∀ (w3 : Int32) (Z1 : q_Z) (M1 : q_C) (H : Heap) (locs : List Loc) (ls : Array Slot), Sum.inr (w3, Z1, M1) = o → q_Hh D cA z0 s Z1 M1 H locs → lv_has ls 6 [(0, .ref h), (1, .int v1), (2, .int v2), (3, .int w3), (4, .int v4)] → q_le Zi Z1 → W p l e R s m args below meth c H locs (zS Z1 - zS Zi) (zC Z1 - zC Zi) Q (F0 m 63 ls []) := by
      intro w3 Z1 M1 H locs ls e hH hl hi
      subst e
      exact ky0 w3 Z1 M1 H locs ls ho hH hl hi
    unfold fX6_search_L17 at hf
    refine lv_iload hx hb dX6_search_17 (lv_at hl 5 rfl) ?_
    refine lv_aload_n hx hb dX6_search_19 rfl (lv_at hl 0 rfl) ?_
    obtain ⟨hk_2, hf⟩ := q_gdE hf
    have hk_2 := q_keq hk_2
    refine q_getI E hH (ci := 6) rfl 8 (by decide) kF_X6_41 (fun _ _ _ => rfl) hk_2 dX6_search_20 ?_
    refine lv_icmp_ge (tgt := 63) hx hb dX6_search_23 (by decide) (fun cc_19 => ?_) (fun cc_19 => ?_)
    · replace hf := q_ifT cc_19 hf
      clear cc_19
      cases hf
      exact kx0 v3 Z M _ _ _ rfl hH (lv_sub hl [0, 1, 2, 3, 4] rfl) hi
    · replace hf := q_ifF cc_19 hf
      clear cc_19
      refine lv_aload_n hx hb dX6_search_26 rfl (lv_at hl 0 rfl) ?_
      refine lv_iload hx hb dX6_search_27 (lv_at hl 4 rfl) ?_
      refine lv_iload hx hb dX6_search_29 (lv_at hl 5 rfl) ?_
      obtain ⟨r_3, M_5, hw_4, hf⟩ := q_b2E hf
      refine q_cV (As := [.int v4, .int v5]) (rest := []) (st1 := [.int r_3]) E hH (tX6_aim l D cA z0 h v4 v5 Z M r_3 M_5 hw_4) mw_X6_aim mi_X6_aim (ci := 6) rfl ms_X6_aim kM_X6_222 hk_2 hcc rfl rfl rfl hl.1 rfl rfl (Nat.le_of_ble_eq_true rfl) ⟨Nat.le_trans (by decide) hR.1, Nat.le_trans (by decide) hR.2⟩ dX6_search_31 (fun H locs hH => ?_)
      refine lv_if_eq (tgt := 57) hx hb dX6_search_34 (by decide) (fun cc_18 => ?_) (fun cc_18 => ?_)
      · replace hf := q_ifT cc_18 hf
        clear cc_18
        exact bX6_search_57 E hR Zi hi hbd h v1 v2 v3 v4 v5 M_5 _ _ _  hf hH (lv_sub hl [0, 1, 2, 3, 4, 5] rfl) kb kx0
      · replace hf := q_ifF cc_18 hf
        clear cc_18
        refine lv_aload_n hx hb dX6_search_37 rfl (lv_at hl 0 rfl) ?_
        refine lv_iload_n hx hb dX6_search_38 rfl (lv_at hl 1 rfl) ?_
        obtain ⟨r_8, M_10, hw_9, hf⟩ := q_b2E hf
        refine q_cV (As := [.int v1]) (rest := []) (st1 := [.int r_8]) E hH (tX6_fitsAllBut l D cA z0 h v1 Z M_5 r_8 M_10 hw_9) mw_X6_fitsAllBut mi_X6_fitsAllBut (ci := 6) rfl ms_X6_fitsAllBut kM_X6_225 hk_2 hcc rfl rfl rfl hl.1 rfl rfl (Nat.le_of_ble_eq_true rfl) ⟨Nat.le_trans (by decide) hR.1, Nat.le_trans (by decide) hR.2⟩ dX6_search_39 (fun H locs hH => ?_)
        refine lv_if_eq (tgt := 57) hx hb dX6_search_42 (by decide) (fun cc_17 => ?_) (fun cc_17 => ?_)
        · replace hf := q_ifT cc_17 hf
          clear cc_17
          exact bX6_search_57 E hR Zi hi hbd h v1 v2 v3 v4 v5 M_10 _ _ _  hf hH (lv_sub hl [0, 1, 2, 3, 4, 5] rfl) kb kx0
        · replace hf := q_ifF cc_17 hf
          clear cc_17
          refine lv_iload_n hx hb dX6_search_45 rfl (lv_at hl 2 rfl) ?_
          refine lv_if_eq (tgt := 54) hx hb dX6_search_46 (by decide) (fun cc_16 => ?_) (fun cc_16 => ?_)
          · replace hf := q_ifT cc_16 hf
            clear cc_16
            exact bX6_search_54 E hR Zi hi hbd h v1 v2 v3 v4 v5 M_10 _ _ _  hf hH (lv_sub hl [0, 1, 2, 3, 4, 5] rfl) kb kx0
          · replace hf := q_ifF cc_16 hf
            clear cc_16
            refine lv_aload_n hx hb dX6_search_49 rfl (lv_at hl 0 rfl) ?_
            refine lv_iload_n hx hb dX6_search_50 rfl (lv_at hl 3 rfl) ?_
            obtain ⟨Z_15, M_14, hw_13, hf⟩ := q_b2E hf
            have hq1 := (moX6_store _ _ _ _ _ _ hw_13)
            have hq := moX6_search_b54 _ _ _ _ _ _ _ _ _ hf
            refine q_cV (As := [.int v3]) (rest := []) (st1 := []) E hH (tX6_store l D cA z0 h v3 Z M_10 Z_15 M_14 hw_13) mw_X6_store mi_X6_store (ci := 6) rfl ms_X6_store kM_X6_228 hk_2 (q_bs hi hq1 hq hbd) (q_be1 hi hq1) (q_be2 hi hq1) rfl hl.1 rfl rfl (Nat.le_of_ble_eq_true rfl) ⟨Nat.le_trans (by decide) hR.1, Nat.le_trans (by decide) hR.2⟩ dX6_search_51 (fun H locs hH => ?_)
            exact bX6_search_54 E hR Zi (hi.tr hq1) hbd h v1 v2 v3 v4 v5 M_14 _ _ _  hf hH (lv_sub hl [0, 1, 2, 3, 4, 5] rfl) kb kx0
def fX6_search_b63 (h : Nat) (v1 : Int32) (v2 : Int32) (v3 : Int32) (v4 : Int32) (Z : q_Z) (M : q_C) : Option ((Int32 × Int32 × q_Z × q_C) ⊕ (Int32 × q_Z × q_C)) :=
  q_nm (v4 + (1 : Int32)) fun v4_25 =>
  some (Sum.inl (v3, v4_25, Z, M))
theorem moX6_search_b63 (h : Nat) (v1 : Int32) (v2 : Int32) (v3 : Int32) (v4 : Int32) (Z : q_Z) (M : q_C) (o : (Int32 × Int32 × q_Z × q_C) ⊕ (Int32 × q_Z × q_C)) (hf : fX6_search_b63 h v1 v2 v3 v4 Z M = some o) : q_le Z (q_sm o (fun x => x.2.2.1) (fun x => x.2.1)) := by
  unfold fX6_search_b63 at hf
  replace hf := q_nmE (x := _) rfl hf
  cases hf
  exact q_le.rf
set_option maxHeartbeats 4000000 in
set_option maxRecDepth 100000 in
theorem bX6_search_63 {Q : State → Prop} (E : q_E p s m meth c cX6_search 6 RX6 (some .int) "search" D cA) (hR : 5 ≤ R.frames ∧ 132 ≤ R.locals) (Zi : q_Z) {Z : q_Z} (hi : q_le Zi Z) {o : (Int32 × Int32 × q_Z × q_C) ⊕ (Int32 × q_Z × q_C)} (hbd : zS (q_sm o (fun x => x.2.2.1) (fun x => x.2.1)) - zS Zi ≤ R.cells ∧ zC (q_sm o (fun x => x.2.2.1) (fun x => x.2.1)) - zC Zi ≤ R.slots)  (h : Nat) (v1 : Int32) (v2 : Int32) (v3 : Int32) (v4 : Int32) (M : q_C) (H : Heap) (locs : List Loc) (ls : Array Slot) (hf : fX6_search_b63 h v1 v2 v3 v4 Z M = some o) (hH : q_Hh D cA z0 s Z M H locs) (hl : lv_has ls 6 [(0, .ref h), (1, .int v1), (2, .int v2), (3, .int v3), (4, .int v4)]) (kb : ∀ (w3 : Int32) (w4 : Int32) (Z1 : q_Z) (M1 : q_C) (H : Heap) (locs : List Loc) (ls : Array Slot), Sum.inl (w3, w4, Z1, M1) = o → q_Hh D cA z0 s Z1 M1 H locs → lv_has ls 6 [(0, .ref h), (1, .int v1), (2, .int v2), (3, .int w3), (4, .int w4)] → q_le Zi Z1 → W p l e R s m args below meth c H locs (zS Z1 - zS Zi) (zC Z1 - zC Zi) Q (F0 m 5 ls [])) (kx0 : ∀ (w3 : Int32) (Z1 : q_Z) (M1 : q_C) (H : Heap) (locs : List Loc) (ls : Array Slot), Sum.inr (w3, Z1, M1) = o → q_Hh D cA z0 s Z1 M1 H locs → lv_has ls 6 [(3, .int w3)] → q_le Zi Z1 → W p l e R s m args below meth c H locs (zS Z1 - zS Zi) (zC Z1 - zC Zi) Q (F0 m 69 ls [])) : W p l e R s m args below meth c H locs (zS Z - zS Zi) (zC Z - zC Zi) Q (F0 m 63 ls []) := by
  have hx := E.1
  have hb := E.2.1
  have hown := E.2.2.2.1
  have hT := E.2.2.2.2.2.2.2.1
  have hcc := q_bd hi (moX6_search_b63 _ _ _ _ _ _ _ _ hf) hbd
  unfold fX6_search_b63 at hf
  obtain ⟨v4_25, hn_26⟩ : ∃ y : Int32, y = v4 + (1 : Int32) := ⟨_, rfl⟩
  replace hf := q_nmE hn_26 hf
  refine lv_iinc (v := v4_25) (lv' := [(4, .int v4_25), (0, .ref h), (1, .int v1), (2, .int v2), (3, .int v3)]) hx hb dX6_search_63 hl (k := 4) rfl (by rw [hn_26]; rfl) (by decide) rfl (fun ls hl => ?_)
  clear hn_26
  refine lv_goto (tgt := 5) hx hb dX6_search_66 (by decide) ?_
  cases hf
  exact kb v3 v4_25 Z M _ _ _ rfl hH (lv_sub hl [1, 2, 3, 4, 0] rfl) hi
def fX6_search_L5 (h : Nat) (v1 : Int32) (v2 : Int32) (v3 : Int32) (v4 : Int32) (Z : q_Z) (M : q_C) : Option ((Int32 × Int32 × q_Z × q_C) ⊕ (Int32 × q_Z × q_C)) :=
  q_gd (zK Z h == 16) <|
  if gI M h 8 ≤ v4 then
    some (Sum.inr (v3, Z, M))
  else
    Option.bind (q_it (fun x => fX6_search_L17 h v1 v2 v4 x.1 x.2.1 x.2.2.1 x.2.2.2) q_FU (v3, (0 : Int32), Z, M)) fun r_20 =>
    q_nm r_20.1 fun v3_22 =>
    q_nm r_20.2.1 fun Z_23 =>
    q_nm r_20.2.2 fun M_24 =>
    fX6_search_b63 h v1 v2 v3_22 v4 Z_23 M_24
theorem moX6_search_L5 (h : Nat) (v1 : Int32) (v2 : Int32) (v3 : Int32) (v4 : Int32) (Z : q_Z) (M : q_C) (o : (Int32 × Int32 × q_Z × q_C) ⊕ (Int32 × q_Z × q_C)) (hf : fX6_search_L5 h v1 v2 v3 v4 Z M = some o) : q_le Z (q_sm o (fun x => x.2.2.1) (fun x => x.2.1)) := by
  unfold fX6_search_L5 at hf
  obtain ⟨-, hf⟩ := q_gdE hf
  rcases q_ifC hf with hf | hf
  · cases hf
    exact q_le.rf
  · obtain ⟨r_20, hr_21, hf⟩ := q_biE hf
    refine (moX6_search_l17 _ _ _ _ _ _ _ hr_21).tr ?_
    replace hf := q_nmE (x := _) rfl hf
    replace hf := q_nmE (x := _) rfl hf
    replace hf := q_nmE (x := _) rfl hf
    exact moX6_search_b63 _ _ _ _ _ _ _ _ hf
theorem moX6_search_l5 (h : Nat) (v1 : Int32) (v2 : Int32) (n : Nat) (x : Int32 × Int32 × q_Z × q_C) (r : (Int32 × q_Z × q_C)) (hf : q_it (fun x => fX6_search_L5 h v1 v2 x.1 x.2.1 x.2.2.1 x.2.2.2) n x = some r) : q_le ((fun x => x.2.2.1) x) ((fun x => x.2.1) r) := by
  exact q_itmo _ (fun x => x.2.2.1) (fun x => x.2.1) (fun x o hx => moX6_search_L5 _ _ _ _ _ _ _ o hx) n x r hf
set_option maxHeartbeats 4000000 in
set_option maxRecDepth 100000 in
theorem lX6_search_5 {Q : State → Prop} (E : q_E p s m meth c cX6_search 6 RX6 (some .int) "search" D cA) (hR : 5 ≤ R.frames ∧ 132 ≤ R.locals) (Zi : q_Z)  (h : Nat) (v1 : Int32) (v2 : Int32) : ∀ (n : Nat) (v3 : Int32) (v4 : Int32) (Z : q_Z) (M : q_C) (H : Heap) (locs : List Loc) (ls : Array Slot) (r : (Int32 × q_Z × q_C)), q_it (fun x => fX6_search_L5 h v1 v2 x.1 x.2.1 x.2.2.1 x.2.2.2) n (v3, v4, Z, M) = some r → zS ((fun x => x.2.1) r) - zS Zi ≤ R.cells ∧ zC ((fun x => x.2.1) r) - zC Zi ≤ R.slots → q_Hh D cA z0 s Z M H locs → lv_has ls 6 [(0, .ref h), (1, .int v1), (2, .int v2), (3, .int v3), (4, .int v4)] → q_le Zi Z → (kx0 : ∀ (w3 : Int32) (Z1 : q_Z) (M1 : q_C) (H : Heap) (locs : List Loc) (ls : Array Slot), (w3, Z1, M1) = r → q_Hh D cA z0 s Z1 M1 H locs → lv_has ls 6 [(3, .int w3)] → q_le Zi Z1 → W p l e R s m args below meth c H locs (zS Z1 - zS Zi) (zC Z1 - zC Zi) Q (F0 m 69 ls [])) → W p l e R s m args below meth c H locs (zS Z - zS Zi) (zC Z - zC Zi) Q (F0 m 5 ls []) := by
  have hx := E.1
  have hb := E.2.1
  have hown := E.2.2.2.1
  have hT := E.2.2.2.2.2.2.2.1
  intro n
  induction n with
  | zero =>
    intro v3 v4 Z M H locs ls r hf
    cases hf
  | succ n ih =>
    intro v3 v4 Z M H locs ls r hf hbr hH hl hi ky0
    obtain ⟨n1, o, hn, hf, ho⟩ := q_itE hf
    cases hn
    have hf : fX6_search_L5 h v1 v2 v3 v4 Z M = some o := hf
    have hbd : zS (q_sm o (fun x => x.2.2.1) (fun x => x.2.1)) - zS Zi ≤ R.cells ∧ zC (q_sm o (fun x => x.2.2.1) (fun x => x.2.1)) - zC Zi ≤ R.slots := by
      cases o with
      | inl y => exact q_bd (hi.tr (moX6_search_L5 _ _ _ _ _ _ _ _ hf)) (moX6_search_l5 _ _ _ _ _ _ ho) hbr
      | inr y => cases ho; exact hbr
    have hcc := q_bd hi (moX6_search_L5 _ _ _ _ _ _ _ _ hf) hbd
    have kb : ∀ (w3 : Int32) (w4 : Int32) (Z1 : q_Z) (M1 : q_C) (H : Heap) (locs : List Loc) (ls : Array Slot), Sum.inl (w3, w4, Z1, M1) = o → q_Hh D cA z0 s Z1 M1 H locs → lv_has ls 6 [(0, .ref h), (1, .int v1), (2, .int v2), (3, .int w3), (4, .int w4)] → q_le Zi Z1 → W p l e R s m args below meth c H locs (zS Z1 - zS Zi) (zC Z1 - zC Zi) Q (F0 m 5 ls []) := by
      intro w3 w4 Z1 M1 H locs ls e hH hl hi
      subst e
      exact ih w3 w4 Z1 M1 H locs ls r ho hbr hH hl hi ky0
    have kx0 : ∀ (w3 : Int32) (Z1 : q_Z) (M1 : q_C) (H : Heap) (locs : List Loc) (ls : Array Slot), Sum.inr (w3, Z1, M1) = o → q_Hh D cA z0 s Z1 M1 H locs → lv_has ls 6 [(3, .int w3)] → q_le Zi Z1 → W p l e R s m args below meth c H locs (zS Z1 - zS Zi) (zC Z1 - zC Zi) Q (F0 m 69 ls []) := by
      intro w3 Z1 M1 H locs ls e hH hl hi
      subst e
      exact ky0 w3 Z1 M1 H locs ls ho hH hl hi
    unfold fX6_search_L5 at hf
    refine lv_iload hx hb dX6_search_5 (lv_at hl 4 rfl) ?_
    refine lv_aload_n hx hb dX6_search_7 rfl (lv_at hl 0 rfl) ?_
    obtain ⟨hk_1, hf⟩ := q_gdE hf
    have hk_1 := q_keq hk_1
    refine q_getI E hH (ci := 6) rfl 8 (by decide) kF_X6_41 (fun _ _ _ => rfl) hk_1 dX6_search_8 ?_
    refine lv_icmp_ge (tgt := 69) hx hb dX6_search_11 (by decide) (fun cc_28 => ?_) (fun cc_28 => ?_)
    · replace hf := q_ifT cc_28 hf
      clear cc_28
      cases hf
      exact kx0 v3 Z M _ _ _ rfl hH (lv_sub hl [3] rfl) hi
    · replace hf := q_ifF cc_28 hf
      clear cc_28
      refine lv_iconst (v := 0) hx hb dX6_search_14 (by decide) ?_
      refine lv_istore (lv' := [(5, .int (0 : Int32)), (0, .ref h), (1, .int v1), (2, .int v2), (3, .int v3), (4, .int v4)]) hx hb dX6_search_15 hl (by decide) rfl (fun ls hl => ?_)
      obtain ⟨r_20, hr_21, hf⟩ := q_biE hf
      refine lX6_search_17 E hR Zi h v1 v2 v4 q_FU v3 (0 : Int32) Z M _ _ _ r_20 hr_21 ?_ hH (lv_sub hl [1, 2, 3, 4, 5, 0] rfl) hi (fun v3_22 Z_23 M_24 H locs ls he_27 hH hl hi => ?_)
      · refine q_bd (hi.tr (moX6_search_l17 _ _ _ _ _ _ _ hr_21)) ?_ hbd
        replace hf := q_nmE (x := _) rfl hf
        replace hf := q_nmE (x := _) rfl hf
        replace hf := q_nmE (x := _) rfl hf
        exact moX6_search_b63 _ _ _ _ _ _ _ _ hf
      · subst he_27
        replace hf := q_nmE (x := v3_22) rfl hf
        replace hf := q_nmE (x := Z_23) rfl hf
        replace hf := q_nmE (x := M_24) rfl hf
        exact bX6_search_63 E hR Zi hi hbd h v1 v2 v3_22 v4 M_24 _ _ _  hf hH (lv_sub hl [0, 1, 2, 3, 4] rfl) kb kx0
def fX6_search_b69 (h : Nat) (v3 : Int32) (Z : q_Z) (M : q_C) : Option (Int32 × q_Z × q_C) :=
  some (v3, Z, M)
theorem moX6_search_b69 (h : Nat) (v3 : Int32) (Z : q_Z) (M : q_C) (r : Int32) (Z' : q_Z) (M' : q_C) (hf : fX6_search_b69 h v3 Z M = some (r, Z', M')) : q_le Z Z' := by
  unfold fX6_search_b69 at hf
  cases hf
  exact q_le.rf
set_option maxHeartbeats 4000000 in
set_option maxRecDepth 100000 in
theorem bX6_search_69 (E : q_E p s m meth c cX6_search 6 RX6 (some .int) "search" D cA) (hR : 5 ≤ R.frames ∧ 132 ≤ R.locals) (Zi : q_Z) {Z : q_Z} (hi : q_le Zi Z) {r : Int32} {Z' : q_Z} {M' : q_C} (hbd : zS Z' - zS Zi ≤ R.cells ∧ zC Z' - zC Zi ≤ R.slots)  (h : Nat) (v3 : Int32) (M : q_C) (H : Heap) (locs : List Loc) (ls : Array Slot) (hf : fX6_search_b69 h v3 Z M = some (r, Z', M')) (hH : q_Hh D cA z0 s Z M H locs) (hl : lv_has ls 6 [(3, .int v3)])  : W p l e R s m args below meth c H locs (zS Z - zS Zi) (zC Z - zC Zi) (MQ below (q_Q D cA z0 (some (.int r)) Z' M') args s (zS Z' - zS Zi) (zC Z' - zC Zi) (fun q => z0 ≤ q)) (F0 m 69 ls []) := by
  have hx := E.1
  have hb := E.2.1
  have hown := E.2.2.2.1
  have hT := E.2.2.2.2.2.2.2.1
  have hcc := q_bd hi (moX6_search_b69 _ _ _ _ _ _ _ hf) hbd
  unfold fX6_search_b69 at hf
  refine lv_iload_n hx hb dX6_search_69 rfl (lv_at hl 0 rfl) ?_
  cases hf
  exact q_iret E hH dX6_search_70
def fX6_search (h : Nat) (v1 : Int32) (v2 : Int32) (Z : q_Z) (M : q_C) : Option (Int32 × q_Z × q_C) :=
  Option.bind (q_it (fun x => fX6_search_L5 h v1 v2 x.1 x.2.1 x.2.2.1 x.2.2.2) q_FU ((0 : Int32), (0 : Int32), Z, M)) fun r_29 =>
  q_nm r_29.1 fun v3_31 =>
  q_nm r_29.2.1 fun Z_32 =>
  q_nm r_29.2.2 fun M_33 =>
  fX6_search_b69 h v3_31 Z_32 M_33
theorem moX6_search (h : Nat) (v1 : Int32) (v2 : Int32) (Z : q_Z) (M : q_C) (r : Int32) (Z' : q_Z) (M' : q_C) (hf : fX6_search h v1 v2 Z M = some (r, Z', M')) : q_le Z Z' := by
  unfold fX6_search at hf
  obtain ⟨r_29, hr_30, hf⟩ := q_biE hf
  refine (moX6_search_l5 _ _ _ _ _ _ hr_30).tr ?_
  replace hf := q_nmE (x := _) rfl hf
  replace hf := q_nmE (x := _) rfl hf
  replace hf := q_nmE (x := _) rfl hf
  exact moX6_search_b69 _ _ _ _ _ _ _ hf
set_option maxHeartbeats 4000000 in
set_option maxRecDepth 100000 in
theorem bX6_search_0 (E : q_E p s m meth c cX6_search 6 RX6 (some .int) "search" D cA) (hR : 5 ≤ R.frames ∧ 132 ≤ R.locals) (Zi : q_Z) {Z : q_Z} (hi : q_le Zi Z) {r : Int32} {Z' : q_Z} {M' : q_C} (hbd : zS Z' - zS Zi ≤ R.cells ∧ zC Z' - zC Zi ≤ R.slots)  (h : Nat) (v1 : Int32) (v2 : Int32) (M : q_C) (H : Heap) (locs : List Loc) (ls : Array Slot) (hf : fX6_search h v1 v2 Z M = some (r, Z', M')) (hH : q_Hh D cA z0 s Z M H locs) (hl : lv_has ls 6 [(0, .ref h), (1, .int v1), (2, .int v2)])  : W p l e R s m args below meth c H locs (zS Z - zS Zi) (zC Z - zC Zi) (MQ below (q_Q D cA z0 (some (.int r)) Z' M') args s (zS Z' - zS Zi) (zC Z' - zC Zi) (fun q => z0 ≤ q)) (F0 m 0 ls []) := by
  have hx := E.1
  have hb := E.2.1
  have hown := E.2.2.2.1
  have hT := E.2.2.2.2.2.2.2.1
  have hcc := q_bd hi (moX6_search _ _ _ _ _ _ _ _ hf) hbd
  unfold fX6_search at hf
  refine lv_iconst (v := 0) hx hb dX6_search_0 (by decide) ?_
  refine lv_istore_n (lv' := [(3, .int (0 : Int32)), (0, .ref h), (1, .int v1), (2, .int v2)]) hx hb dX6_search_1 rfl hl (by decide) rfl (fun ls hl => ?_)
  refine lv_iconst (v := 0) hx hb dX6_search_2 (by decide) ?_
  refine lv_istore (lv' := [(4, .int (0 : Int32)), (3, .int (0 : Int32)), (0, .ref h), (1, .int v1), (2, .int v2)]) hx hb dX6_search_3 hl (by decide) rfl (fun ls hl => ?_)
  obtain ⟨r_29, hr_30, hf⟩ := q_biE hf
  refine lX6_search_5 E hR Zi h v1 v2 q_FU (0 : Int32) (0 : Int32) Z M _ _ _ r_29 hr_30 ?_ hH (lv_sub hl [2, 3, 4, 1, 0] rfl) hi (fun v3_31 Z_32 M_33 H locs ls he_34 hH hl hi => ?_)
  · refine q_bd (hi.tr (moX6_search_l5 _ _ _ _ _ _ hr_30)) ?_ hbd
    replace hf := q_nmE (x := _) rfl hf
    replace hf := q_nmE (x := _) rfl hf
    replace hf := q_nmE (x := _) rfl hf
    exact moX6_search_b69 _ _ _ _ _ _ _ hf
  · subst he_34
    replace hf := q_nmE (x := v3_31) rfl hf
    replace hf := q_nmE (x := Z_32) rfl hf
    replace hf := q_nmE (x := M_33) rfl hf
    exact bX6_search_69 E hR Zi hi hbd h v3_31 M_33 _ _ _  hf hH (lv_sub hl [0] rfl)
set_option maxRecDepth 100000 in
theorem tX6_search (l : Launch) (D : va_G) (cA : Nat → ClassId) (z0 : Nat) (h : Nat) (v1 : Int32) (v2 : Int32) (Z : q_Z) (M : q_C) (r : Int32) (Z' : q_Z) (M' : q_C) (hf : fX6_search h v1 v2 Z M = some (r, Z', M')) : q_Ct l D cA z0 yX6_search cX6_search 6 (some .int) 5 132 [.ref h, .int v1, .int v2] Z M (some (.int r)) Z' M' (zS Z' - zS Z) (zC Z' - zC Z) := by
  (refine q_start (plainFor_of_name (by decide)) (Nat.le_of_ble_eq_true rfl) (fun p e s m below meth c H ls E hH hl => ?_)
   refine q_wc (c1 := zS Z - zS Z) (s1 := zC Z - zC Z) (Nat.sub_self _).symm (Nat.sub_self _).symm ?_
   exact bX6_search_0 E ⟨Nat.le_refl _, Nat.le_refl _⟩ Z q_le.rf ⟨Nat.le_refl _, Nat.le_refl _⟩ h _ _ M H [] ls hf hH hl)
def fX6_keep_b27 (h : Nat) (s0 : Int32) (s1 : Nat) (Z : q_Z) (M : q_C) : Option (Int32 × q_Z × q_C) :=
  q_gd (zK Z s1 == 16) <|
  q_nm (sI M s1 10 s0) fun M_16 =>
  q_gd (zK Z h == 16) <|
  some ((gI M_16 h 10), Z, M_16)
theorem moX6_keep_b27 (h : Nat) (s0 : Int32) (s1 : Nat) (Z : q_Z) (M : q_C) (r : Int32) (Z' : q_Z) (M' : q_C) (hf : fX6_keep_b27 h s0 s1 Z M = some (r, Z', M')) : q_le Z Z' := by
  unfold fX6_keep_b27 at hf
  obtain ⟨-, hf⟩ := q_gdE hf
  replace hf := q_nmE (x := _) rfl hf
  obtain ⟨-, hf⟩ := q_gdE hf
  cases hf
  exact q_le.rf
set_option maxHeartbeats 4000000 in
set_option maxRecDepth 100000 in
theorem bX6_keep_27 (E : q_E p s m meth c cX6_keep 1 RX6 (some .int) "keep" D cA) (hR : 6 ≤ R.frames ∧ 157 ≤ R.locals) (Zi : q_Z) {Z : q_Z} (hi : q_le Zi Z) {r : Int32} {Z' : q_Z} {M' : q_C} (hbd : zS Z' - zS Zi ≤ R.cells ∧ zC Z' - zC Zi ≤ R.slots)  (h : Nat) (s0 : Int32) (s1 : Nat) (M : q_C) (H : Heap) (locs : List Loc) (ls : Array Slot) (hf : fX6_keep_b27 h s0 s1 Z M = some (r, Z', M')) (hH : q_Hh D cA z0 s Z M H locs) (hl : lv_has ls 1 [(0, .ref h)])  : W p l e R s m args below meth c H locs (zS Z - zS Zi) (zC Z - zC Zi) (MQ below (q_Q D cA z0 (some (.int r)) Z' M') args s (zS Z' - zS Zi) (zC Z' - zC Zi) (fun q => z0 ≤ q)) (F0 m 27 ls [.int s0, .ref s1]) := by
  have hx := E.1
  have hb := E.2.1
  have hown := E.2.2.2.1
  have hT := E.2.2.2.2.2.2.2.1
  have hcc := q_bd hi (moX6_keep_b27 _ _ _ _ _ _ _ _ hf) hbd
  unfold fX6_keep_b27 at hf
  obtain ⟨hk_15, hf⟩ := q_gdE hf
  have hk_15 := q_keq hk_15
  refine q_putI E hH (ci := 6) rfl 10 (by decide) kF_X6_50 rfl (fun _ _ _ => rfl) (x := s0) hk_15 rfl rfl dX6_keep_27 hf (fun M_16 H locs hH hf => ?_)
  refine lv_aload_n hx hb dX6_keep_30 rfl (lv_at hl 0 rfl) ?_
  obtain ⟨hk_17, hf⟩ := q_gdE hf
  have hk_17 := q_keq hk_17
  refine q_getI E hH (ci := 6) rfl 10 (by decide) kF_X6_50 (fun _ _ _ => rfl) hk_17 dX6_keep_31 ?_
  cases hf
  exact q_iret E hH dX6_keep_34
def fX6_keep (h : Nat) (Z : q_Z) (M : q_C) : Option (Int32 × q_Z × q_C) :=
  q_gd (zK Z h == 16) <|
  Option.bind (fX6_hasBase h Z M) fun r_2 =>
  if r_2 = 0 then
    some ((-1 : Int32), Z, M)
  else
    Option.bind (gR M h 1) fun a_4 =>
    Option.bind (gR M h 0) fun a_6 =>
    q_gd (zK Z a_4 == 13) <|
    Option.bind (fX3_become a_4 (some a_6) Z M) fun M_10 =>
    q_b3 (fX6_search h (-1 : Int32) (1 : Int32) Z M_10) fun r_11 Z_14 M_13 =>
    fX6_keep_b27 h r_11 h Z_14 M_13
theorem moX6_keep (h : Nat) (Z : q_Z) (M : q_C) (r : Int32) (Z' : q_Z) (M' : q_C) (hf : fX6_keep h Z M = some (r, Z', M')) : q_le Z Z' := by
  unfold fX6_keep at hf
  obtain ⟨-, hf⟩ := q_gdE hf
  obtain ⟨r_2, hw_3, hf⟩ := q_biE hf
  rcases q_ifC hf with hf | hf
  · cases hf
    exact q_le.rf
  · obtain ⟨a_4, -, hf⟩ := q_biE hf
    obtain ⟨a_6, -, hf⟩ := q_biE hf
    obtain ⟨-, hf⟩ := q_gdE hf
    obtain ⟨M_10, hw_9, hf⟩ := q_biE hf
    obtain ⟨r_11, Z_14, M_13, hw_12, hf⟩ := q_b3E hf
    have hq := moX6_search _ _ _ _ _ _ _ _ hw_12
    exact hq.tr (moX6_keep_b27 _ _ _ _ _ _ _ _ hf)
set_option maxHeartbeats 4000000 in
set_option maxRecDepth 100000 in
theorem bX6_keep_0 (E : q_E p s m meth c cX6_keep 1 RX6 (some .int) "keep" D cA) (hR : 6 ≤ R.frames ∧ 157 ≤ R.locals) (Zi : q_Z) {Z : q_Z} (hi : q_le Zi Z) {r : Int32} {Z' : q_Z} {M' : q_C} (hbd : zS Z' - zS Zi ≤ R.cells ∧ zC Z' - zC Zi ≤ R.slots)  (h : Nat) (M : q_C) (H : Heap) (locs : List Loc) (ls : Array Slot) (hf : fX6_keep h Z M = some (r, Z', M')) (hH : q_Hh D cA z0 s Z M H locs) (hl : lv_has ls 1 [(0, .ref h)])  : W p l e R s m args below meth c H locs (zS Z - zS Zi) (zC Z - zC Zi) (MQ below (q_Q D cA z0 (some (.int r)) Z' M') args s (zS Z' - zS Zi) (zC Z' - zC Zi) (fun q => z0 ≤ q)) (F0 m 0 ls []) := by
  have hx := E.1
  have hb := E.2.1
  have hown := E.2.2.2.1
  have hT := E.2.2.2.2.2.2.2.1
  have hcc := q_bd hi (moX6_keep _ _ _ _ _ _ hf) hbd
  unfold fX6_keep at hf
  refine lv_aload_n hx hb dX6_keep_0 rfl (lv_at hl 0 rfl) ?_
  obtain ⟨hk_1, hf⟩ := q_gdE hf
  have hk_1 := q_keq hk_1
  obtain ⟨r_2, hw_3, hf⟩ := q_biE hf
  refine q_cV (As := []) (rest := []) (st1 := [.int r_2]) E hH (tX6_hasBase l D cA z0 h Z M r_2 hw_3) mw_X6_hasBase mi_X6_hasBase (ci := 6) rfl ms_X6_hasBase kM_X6_131 hk_1 hcc rfl rfl rfl hl.1 rfl rfl (Nat.le_of_ble_eq_true rfl) ⟨Nat.le_trans (by decide) hR.1, Nat.le_trans (by decide) hR.2⟩ dX6_keep_1 (fun H locs hH => ?_)
  refine lv_if_ne (tgt := 9) hx hb dX6_keep_4 (by decide) (fun cc_18 => ?_) (fun cc_18 => ?_)
  · replace hf := q_ifF cc_18 hf
    clear cc_18
    refine lv_aload_n hx hb dX6_keep_9 rfl (lv_at hl 0 rfl) ?_
    refine q_getR E hH (ci := 6) rfl 1 (by decide) kF_X6_16 (fun _ _ _ => rfl) hk_1 dX6_keep_10 ?_
    obtain ⟨a_4, he_5, hf⟩ := q_biE hf
    rw [he_5]
    refine lv_aload_n hx hb dX6_keep_13 rfl (lv_at hl 0 rfl) ?_
    refine q_getR E hH (ci := 6) rfl 0 (by decide) kF_X6_12 (fun _ _ _ => rfl) hk_1 dX6_keep_14 ?_
    obtain ⟨a_6, he_7, hf⟩ := q_biE hf
    rw [he_7]
    obtain ⟨hk_8, hf⟩ := q_gdE hf
    have hk_8 := q_keq hk_8
    obtain ⟨M_10, hw_9, hf⟩ := q_biE hf
    refine q_cV (As := [.ref a_6]) (rest := []) (st1 := []) E hH (tX3_become l D cA z0 a_4 (some a_6) Z M M_10 hw_9) mw_X3_become mi_X3_become (ci := 3) rfl ms_X3_become kM_X6_135 hk_8 hcc rfl rfl rfl hl.1 rfl rfl (Nat.le_of_ble_eq_true rfl) ⟨Nat.le_trans (by decide) hR.1, Nat.le_trans (by decide) hR.2⟩ dX6_keep_17 (fun H locs hH => ?_)
    refine lv_aload_n hx hb dX6_keep_20 rfl (lv_at hl 0 rfl) ?_
    refine lv_aload_n hx hb dX6_keep_21 rfl (lv_at hl 0 rfl) ?_
    refine lv_iconst (v := -1) hx hb dX6_keep_22 (by decide) ?_
    refine lv_iconst (v := 1) hx hb dX6_keep_23 (by decide) ?_
    obtain ⟨r_11, Z_14, M_13, hw_12, hf⟩ := q_b3E hf
    have hq1 := (moX6_search _ _ _ _ _ _ _ _ hw_12)
    have hq := moX6_keep_b27 _ _ _ _ _ _ _ _ hf
    refine q_cV (As := [.int (-1 : Int32), .int (1 : Int32)]) (rest := [.ref h]) (st1 := [.int r_11, .ref h]) E hH (tX6_search l D cA z0 h (-1 : Int32) (1 : Int32) Z M_10 r_11 Z_14 M_13 hw_12) mw_X6_search mi_X6_search (ci := 6) rfl ms_X6_search kM_X6_139 hk_1 (q_bs hi hq1 hq hbd) (q_be1 hi hq1) (q_be2 hi hq1) rfl hl.1 rfl rfl (Nat.le_of_ble_eq_true rfl) ⟨Nat.le_trans (by decide) hR.1, Nat.le_trans (by decide) hR.2⟩ dX6_keep_24 (fun H locs hH => ?_)
    exact bX6_keep_27 E hR Zi (hi.tr hq1) hbd h r_11 h M_13 _ _ _  hf hH (lv_sub hl [0] rfl)
  · replace hf := q_ifT cc_18 hf
    clear cc_18
    refine lv_iconst (v := -1) hx hb dX6_keep_7 (by decide) ?_
    cases hf
    exact q_iret E hH dX6_keep_8
set_option maxRecDepth 100000 in
theorem tX6_keep (l : Launch) (D : va_G) (cA : Nat → ClassId) (z0 : Nat) (h : Nat) (Z : q_Z) (M : q_C) (r : Int32) (Z' : q_Z) (M' : q_C) (hf : fX6_keep h Z M = some (r, Z', M')) : q_Ct l D cA z0 yX6_keep cX6_keep 1 (some .int) 6 157 [.ref h] Z M (some (.int r)) Z' M' (zS Z' - zS Z) (zC Z' - zC Z) := by
  (refine q_start (plainFor_of_name (by decide)) (Nat.le_of_ble_eq_true rfl) (fun p e s m below meth c H ls E hH hl => ?_)
   refine q_wc (c1 := zS Z - zS Z) (s1 := zC Z - zC Z) (Nat.sub_self _).symm (Nat.sub_self _).symm ?_
   exact bX6_keep_0 E ⟨Nat.le_refl _, Nat.le_refl _⟩ Z q_le.rf ⟨Nat.le_refl _, Nat.le_refl _⟩ h M H [] ls hf hH hl)
def fX5_trace_L62 (h : Nat) (v1 : Option Nat) (v2 : Option Nat) (v3 : Int32) (Z : q_Z) (M : q_C) : Option ((Int32 × q_C) ⊕ q_C) :=
  if (300 : Int32) < v3 then
    some (Sum.inr M)
  else
    Option.bind v2 fun a_21 =>
    q_gd (zK Z a_21 == 10) <|
    if gI M a_21 5 = 0 then
      q_gd (zK Z h == 15) <|
      q_nm (sI M h 9 v3) fun M_25 =>
      Option.bind (fX0_go a_21 v1 (v3 + (1 : Int32)) Z M_25) fun M_27 =>
      Option.bind (fX5_write h (some a_21) Z M_27) fun M_29 =>
      q_nm (v3 + (1 : Int32)) fun v3_30 =>
      some (Sum.inl (v3_30, M_29))
    else
      some (Sum.inr M)
set_option maxHeartbeats 4000000 in
set_option maxRecDepth 100000 in
theorem lX5_trace_62 {cells slots : Nat} {Q : State → Prop} (E : q_E p s m meth c cX5_trace 4 RX5 none "trace" D cA) (hR : 4 ≤ R.frames ∧ 104 ≤ R.locals) (hcc : cells ≤ R.cells ∧ slots ≤ R.slots)  (h : Nat) (v1 : Option Nat) (v2 : Option Nat) (Z : q_Z) : ∀ (n : Nat) (v3 : Int32) (M : q_C) (H : Heap) (locs : List Loc) (ls : Array Slot) (r : q_C), q_it (fun x => fX5_trace_L62 h v1 v2 x.1 Z x.2) n (v3, M) = some r → q_Hh D cA z0 s Z M H locs → lv_has ls 4 [(0, .ref h), (1, va_rf v1), (2, va_rf v2), (3, .int v3)] → (kx0 : ∀ (M1 : q_C) (H : Heap) (locs : List Loc) (ls : Array Slot), M1 = r → q_Hh D cA z0 s Z M1 H locs → lv_has ls 4 [(0, .ref h), (1, va_rf v1), (2, va_rf v2)] → W p l e R s m args below meth c H locs cells slots Q (F0 m 100 ls [])) → W p l e R s m args below meth c H locs cells slots Q (F0 m 62 ls []) := by
  have hx := E.1
  have hb := E.2.1
  have hown := E.2.2.2.1
  have hT := E.2.2.2.2.2.2.2.1
  intro n
  induction n with
  | zero =>
    intro v3 M H locs ls r hf
    cases hf
  | succ n ih =>
    intro v3 M H locs ls r hf hH hl ky0
    obtain ⟨n1, o, hn, hf, ho⟩ := q_itE hf
    cases hn
    have hf : fX5_trace_L62 h v1 v2 v3 Z M = some o := hf
    have kb : ∀ (w3 : Int32) (M1 : q_C) (H : Heap) (locs : List Loc) (ls : Array Slot), Sum.inl (w3, M1) = o → q_Hh D cA z0 s Z M1 H locs → lv_has ls 4 [(0, .ref h), (1, va_rf v1), (2, va_rf v2), (3, .int w3)] → W p l e R s m args below meth c H locs cells slots Q (F0 m 62 ls []) := by
      intro w3 M1 H locs ls e hH hl
      subst e
      exact ih w3 M1 H locs ls r ho hH hl ky0
    have kx0 : ∀ (M1 : q_C) (H : Heap) (locs : List Loc) (ls : Array Slot), Sum.inr M1 = o → q_Hh D cA z0 s Z M1 H locs → lv_has ls 4 [(0, .ref h), (1, va_rf v1), (2, va_rf v2)] → W p l e R s m args below meth c H locs cells slots Q (F0 m 100 ls []) := by
      intro M1 H locs ls e hH hl
      subst e
      exact ky0 M1 H locs ls ho hH hl
    unfold fX5_trace_L62 at hf
    refine lv_iload_n hx hb dX5_trace_62 rfl (lv_at hl 3 rfl) ?_
    refine lv_sipush (v := 300) hx hb dX5_trace_63 (by decide) ?_
    refine lv_icmp_gt (tgt := 100) hx hb dX5_trace_66 (by decide) (fun cc_33 => ?_) (fun cc_33 => ?_)
    · replace hf := q_ifT cc_33 hf
      clear cc_33
      cases hf
      exact kx0 M _ _ _ rfl hH (lv_sub hl [0, 1, 2] rfl)
    · replace hf := q_ifF cc_33 hf
      clear cc_33
      refine q_aload_n hx hb dX5_trace_69 rfl (lv_at hl 2 rfl) ?_
      obtain ⟨a_21, he_22, hf⟩ := q_biE hf
      subst he_22
      obtain ⟨hk_23, hf⟩ := q_gdE hf
      have hk_23 := q_keq hk_23
      refine q_getIN E hH (ci := 0) rfl 5 (by decide) kF_X5_57 (fun _ _ _ => rfl) hk_23 dX5_trace_70 ?_
      refine lv_if_ne (tgt := 100) hx hb dX5_trace_73 (by decide) (fun cc_32 => ?_) (fun cc_32 => ?_)
      · replace hf := q_ifF cc_32 hf
        clear cc_32
        cases hf
        exact kx0 M _ _ _ rfl hH (lv_sub hl [0, 1, 2] rfl)
      · replace hf := q_ifT cc_32 hf
        clear cc_32
        refine lv_aload_n hx hb dX5_trace_76 rfl (lv_at hl 0 rfl) ?_
        refine lv_iload_n hx hb dX5_trace_77 rfl (lv_at hl 3 rfl) ?_
        obtain ⟨hk_24, hf⟩ := q_gdE hf
        have hk_24 := q_keq hk_24
        refine q_putI E hH (ci := 5) rfl 9 (by decide) kF_X5_40 rfl (fun _ _ _ => rfl) (x := v3) hk_24 rfl rfl dX5_trace_78 hf (fun M_25 H locs hH hf => ?_)
        refine lv_aload_n hx hb dX5_trace_81 rfl (lv_at hl 2 rfl) ?_
        refine q_aload_n hx hb dX5_trace_82 rfl (lv_at hl 1 rfl) ?_
        refine lv_iload_n hx hb dX5_trace_83 rfl (lv_at hl 3 rfl) ?_
        refine lv_iconst (v := 1) hx hb dX5_trace_84 (by decide) ?_
        refine lv_iadd hx hb dX5_trace_85 ?_
        obtain ⟨M_27, hw_26, hf⟩ := q_biE hf
        refine q_cV (As := [va_rf v1, .int (v3 + (1 : Int32))]) (rest := []) (st1 := []) E hH (tX0_go l D cA z0 a_21 v1 (v3 + (1 : Int32)) Z M_25 M_27 hw_26) mw_X0_go mi_X0_go (ci := 0) rfl ms_X0_go kM_X5_60 hk_23 hcc rfl rfl rfl hl.1 rfl rfl (Nat.le_of_ble_eq_true rfl) ⟨Nat.le_trans (by decide) hR.1, Nat.le_trans (by decide) hR.2⟩ dX5_trace_86 (fun H locs hH => ?_)
        refine lv_aload_n hx hb dX5_trace_89 rfl (lv_at hl 0 rfl) ?_
        refine lv_aload_n hx hb dX5_trace_90 rfl (lv_at hl 2 rfl) ?_
        obtain ⟨M_29, hw_28, hf⟩ := q_biE hf
        refine q_cV (As := [.ref a_21]) (rest := []) (st1 := []) E hH (tX5_write l D cA z0 h (some a_21) Z M_27 M_29 hw_28) mw_X5_write mi_X5_write (ci := 5) rfl ms_X5_write kM_X5_53 hk_24 hcc rfl rfl rfl hl.1 rfl rfl (Nat.le_of_ble_eq_true rfl) ⟨Nat.le_trans (by decide) hR.1, Nat.le_trans (by decide) hR.2⟩ dX5_trace_91 (fun H locs hH => ?_)
        obtain ⟨v3_30, hn_31⟩ : ∃ y : Int32, y = v3 + (1 : Int32) := ⟨_, rfl⟩
        replace hf := q_nmE hn_31 hf
        refine lv_iinc (v := v3_30) (lv' := [(3, .int v3_30), (0, .ref h), (1, va_rf v1), (2, .ref a_21)]) hx hb dX5_trace_94 hl (k := 3) rfl (by rw [hn_31]; rfl) (by decide) rfl (fun ls hl => ?_)
        clear hn_31
        refine lv_goto (tgt := 62) hx hb dX5_trace_97 (by decide) ?_
        cases hf
        exact kb v3_30 M_29 _ _ _ rfl hH (lv_sub hl [1, 2, 3, 0] rfl)
def fX5_trace_b152 (h : Nat) (v1 : Option Nat) (v2 : Option Nat) (v3 : Int32) (s0 : Int32) (s1 : Option Nat) (Z : q_Z) (M : q_C) : Option ((Int32 × q_C) ⊕ q_C) :=
  Option.bind s1 fun a_53 =>
  q_gd (zK Z a_53 == 15) <|
  q_nm (sI M a_53 8 s0) fun M_56 =>
  q_nm (v3 + (-1 : Int32)) fun v3_57 =>
  some (Sum.inl (v3_57, M_56))
set_option maxHeartbeats 4000000 in
set_option maxRecDepth 100000 in
theorem bX5_trace_152 {cells slots : Nat} {Q : State → Prop} (E : q_E p s m meth c cX5_trace 4 RX5 none "trace" D cA) (hR : 4 ≤ R.frames ∧ 104 ≤ R.locals) (hcc : cells ≤ R.cells ∧ slots ≤ R.slots) (h : Nat) (v1 : Option Nat) (v2 : Option Nat) (v3 : Int32) (s0 : Int32) (s1 : Option Nat) (Z : q_Z) (M : q_C) (H : Heap) (locs : List Loc) (ls : Array Slot) (o : (Int32 × q_C) ⊕ q_C) (hf : fX5_trace_b152 h v1 v2 v3 s0 s1 Z M = some o) (hH : q_Hh D cA z0 s Z M H locs) (hl : lv_has ls 4 [(0, .ref h), (1, va_rf v1), (2, va_rf v2), (3, .int v3)]) (kb : ∀ (w3 : Int32) (M1 : q_C) (H : Heap) (locs : List Loc) (ls : Array Slot), Sum.inl (w3, M1) = o → q_Hh D cA z0 s Z M1 H locs → lv_has ls 4 [(0, .ref h), (1, va_rf v1), (2, va_rf v2), (3, .int w3)] → W p l e R s m args below meth c H locs cells slots Q (F0 m 112 ls [])) (kx0 : ∀ (M1 : q_C) (H : Heap) (locs : List Loc) (ls : Array Slot), Sum.inr M1 = o → q_Hh D cA z0 s Z M1 H locs → lv_has ls 4 [] → W p l e R s m args below meth c H locs cells slots Q (F0 m 161 ls [])) : W p l e R s m args below meth c H locs cells slots Q (F0 m 152 ls [.int s0, va_rf s1]) := by
  have hx := E.1
  have hb := E.2.1
  have hown := E.2.2.2.1
  have hT := E.2.2.2.2.2.2.2.1
  unfold fX5_trace_b152 at hf
  obtain ⟨a_53, he_54, hf⟩ := q_biE hf
  subst he_54
  obtain ⟨hk_55, hf⟩ := q_gdE hf
  have hk_55 := q_keq hk_55
  refine q_putI E hH (ci := 5) rfl 8 (by decide) kF_X5_37 rfl (fun _ _ _ => rfl) (x := s0) hk_55 rfl rfl dX5_trace_152 hf (fun M_56 H locs hH hf => ?_)
  obtain ⟨v3_57, hn_58⟩ : ∃ y : Int32, y = v3 + (-1 : Int32) := ⟨_, rfl⟩
  replace hf := q_nmE hn_58 hf
  refine lv_iinc (v := v3_57) (lv' := [(3, .int v3_57), (0, .ref h), (1, va_rf v1), (2, va_rf v2)]) hx hb dX5_trace_155 hl (k := 3) rfl (by rw [hn_58]; rfl) (by decide) (by simp [q_rfc] <;> rfl) (fun ls hl => ?_)
  clear hn_58
  refine lv_goto (tgt := 112) hx hb dX5_trace_158 (by decide) ?_
  cases hf
  exact kb v3_57 M_56 _ _ _ rfl hH (lv_sub hl [1, 2, 3, 0] rfl)
def fX5_trace_L112 (h : Nat) (v1 : Option Nat) (v2 : Option Nat) (v3 : Int32) (Z : q_Z) (M : q_C) : Option ((Int32 × q_C) ⊕ q_C) :=
  if v3 < (-300 : Int32) then
    some (Sum.inr M)
  else
    Option.bind v2 fun a_45 =>
    q_gd (zK Z a_45 == 10) <|
    if gI M a_45 5 = 0 then
      Option.bind (fX0_go a_45 v1 v3 Z M) fun M_49 =>
      q_gd (zK Z h == 15) <|
      Option.bind (fX5_write h (some a_45) Z M_49) fun M_52 =>
      if gI M_52 a_45 5 = 0 then
        fX5_trace_b152 h v1 (some a_45) v3 v3 (some h) Z M_52
      else
        fX5_trace_b152 h v1 (some a_45) v3 (v3 + (1 : Int32)) (some h) Z M_52
    else
      some (Sum.inr M)
set_option maxHeartbeats 4000000 in
set_option maxRecDepth 100000 in
theorem lX5_trace_112 {cells slots : Nat} {Q : State → Prop} (E : q_E p s m meth c cX5_trace 4 RX5 none "trace" D cA) (hR : 4 ≤ R.frames ∧ 104 ≤ R.locals) (hcc : cells ≤ R.cells ∧ slots ≤ R.slots)  (h : Nat) (v1 : Option Nat) (v2 : Option Nat) (Z : q_Z) : ∀ (n : Nat) (v3 : Int32) (M : q_C) (H : Heap) (locs : List Loc) (ls : Array Slot) (r : q_C), q_it (fun x => fX5_trace_L112 h v1 v2 x.1 Z x.2) n (v3, M) = some r → q_Hh D cA z0 s Z M H locs → lv_has ls 4 [(0, .ref h), (1, va_rf v1), (2, va_rf v2), (3, .int v3)] → (kx0 : ∀ (M1 : q_C) (H : Heap) (locs : List Loc) (ls : Array Slot), M1 = r → q_Hh D cA z0 s Z M1 H locs → lv_has ls 4 [] → W p l e R s m args below meth c H locs cells slots Q (F0 m 161 ls [])) → W p l e R s m args below meth c H locs cells slots Q (F0 m 112 ls []) := by
  have hx := E.1
  have hb := E.2.1
  have hown := E.2.2.2.1
  have hT := E.2.2.2.2.2.2.2.1
  intro n
  induction n with
  | zero =>
    intro v3 M H locs ls r hf
    cases hf
  | succ n ih =>
    intro v3 M H locs ls r hf hH hl ky0
    obtain ⟨n1, o, hn, hf, ho⟩ := q_itE hf
    cases hn
    have hf : fX5_trace_L112 h v1 v2 v3 Z M = some o := hf
    have kb : ∀ (w3 : Int32) (M1 : q_C) (H : Heap) (locs : List Loc) (ls : Array Slot), Sum.inl (w3, M1) = o → q_Hh D cA z0 s Z M1 H locs → lv_has ls 4 [(0, .ref h), (1, va_rf v1), (2, va_rf v2), (3, .int w3)] → W p l e R s m args below meth c H locs cells slots Q (F0 m 112 ls []) := by
      intro w3 M1 H locs ls e hH hl
      subst e
      exact ih w3 M1 H locs ls r ho hH hl ky0
    have kx0 : ∀ (M1 : q_C) (H : Heap) (locs : List Loc) (ls : Array Slot), Sum.inr M1 = o → q_Hh D cA z0 s Z M1 H locs → lv_has ls 4 [] → W p l e R s m args below meth c H locs cells slots Q (F0 m 161 ls []) := by
      intro M1 H locs ls e hH hl
      subst e
      exact ky0 M1 H locs ls ho hH hl
    unfold fX5_trace_L112 at hf
    refine lv_iload_n hx hb dX5_trace_112 rfl (lv_at hl 3 rfl) ?_
    refine lv_sipush (v := -300) hx hb dX5_trace_113 (by decide) ?_
    refine lv_icmp_lt (tgt := 161) hx hb dX5_trace_116 (by decide) (fun cc_61 => ?_) (fun cc_61 => ?_)
    · replace hf := q_ifT cc_61 hf
      clear cc_61
      cases hf
      exact kx0 M _ _ _ rfl hH (lv_sub hl [] rfl)
    · replace hf := q_ifF cc_61 hf
      clear cc_61
      refine q_aload_n hx hb dX5_trace_119 rfl (lv_at hl 2 rfl) ?_
      obtain ⟨a_45, he_46, hf⟩ := q_biE hf
      subst he_46
      obtain ⟨hk_47, hf⟩ := q_gdE hf
      have hk_47 := q_keq hk_47
      refine q_getIN E hH (ci := 0) rfl 5 (by decide) kF_X5_57 (fun _ _ _ => rfl) hk_47 dX5_trace_120 ?_
      refine lv_if_ne (tgt := 161) hx hb dX5_trace_123 (by decide) (fun cc_60 => ?_) (fun cc_60 => ?_)
      · replace hf := q_ifF cc_60 hf
        clear cc_60
        cases hf
        exact kx0 M _ _ _ rfl hH (lv_sub hl [] rfl)
      · replace hf := q_ifT cc_60 hf
        clear cc_60
        refine lv_aload_n hx hb dX5_trace_126 rfl (lv_at hl 2 rfl) ?_
        refine q_aload_n hx hb dX5_trace_127 rfl (lv_at hl 1 rfl) ?_
        refine lv_iload_n hx hb dX5_trace_128 rfl (lv_at hl 3 rfl) ?_
        obtain ⟨M_49, hw_48, hf⟩ := q_biE hf
        refine q_cV (As := [va_rf v1, .int v3]) (rest := []) (st1 := []) E hH (tX0_go l D cA z0 a_45 v1 v3 Z M M_49 hw_48) mw_X0_go mi_X0_go (ci := 0) rfl ms_X0_go kM_X5_60 hk_47 hcc rfl rfl rfl hl.1 rfl rfl (Nat.le_of_ble_eq_true rfl) ⟨Nat.le_trans (by decide) hR.1, Nat.le_trans (by decide) hR.2⟩ dX5_trace_129 (fun H locs hH => ?_)
        refine lv_aload_n hx hb dX5_trace_132 rfl (lv_at hl 0 rfl) ?_
        refine lv_aload_n hx hb dX5_trace_133 rfl (lv_at hl 2 rfl) ?_
        obtain ⟨hk_50, hf⟩ := q_gdE hf
        have hk_50 := q_keq hk_50
        obtain ⟨M_52, hw_51, hf⟩ := q_biE hf
        refine q_cV (As := [.ref a_45]) (rest := []) (st1 := []) E hH (tX5_write l D cA z0 h (some a_45) Z M_49 M_52 hw_51) mw_X5_write mi_X5_write (ci := 5) rfl ms_X5_write kM_X5_53 hk_50 hcc rfl rfl rfl hl.1 rfl rfl (Nat.le_of_ble_eq_true rfl) ⟨Nat.le_trans (by decide) hR.1, Nat.le_trans (by decide) hR.2⟩ dX5_trace_134 (fun H locs hH => ?_)
        refine lv_aload_n hx hb dX5_trace_137 rfl (lv_at hl 0 rfl) ?_
        refine lv_aload_n hx hb dX5_trace_138 rfl (lv_at hl 2 rfl) ?_
        refine q_getIN E hH (ci := 0) rfl 5 (by decide) kF_X5_57 (fun _ _ _ => rfl) hk_47 dX5_trace_139 ?_
        refine lv_if_eq (tgt := 151) hx hb dX5_trace_142 (by decide) (fun cc_59 => ?_) (fun cc_59 => ?_)
        · replace hf := q_ifT cc_59 hf
          clear cc_59
          refine lv_iload_n hx hb dX5_trace_151 rfl (lv_at hl 3 rfl) ?_
          exact bX5_trace_152 E hR hcc h v1 (some a_45) v3 v3 (some h) Z M_52 _ _ _ _ hf hH (lv_sub hl [0, 1, 2, 3] rfl) kb kx0
        · replace hf := q_ifF cc_59 hf
          clear cc_59
          refine lv_iload_n hx hb dX5_trace_145 rfl (lv_at hl 3 rfl) ?_
          refine lv_iconst (v := 1) hx hb dX5_trace_146 (by decide) ?_
          refine lv_iadd hx hb dX5_trace_147 ?_
          refine lv_goto (tgt := 152) hx hb dX5_trace_148 (by decide) ?_
          exact bX5_trace_152 E hR hcc h v1 (some a_45) v3 (v3 + (1 : Int32)) (some h) Z M_52 _ _ _ _ hf hH (lv_sub hl [0, 1, 2, 3] rfl) kb kx0
def fX5_trace_b161 (h : Nat) (Z : q_Z) (M : q_C) : Option (q_Z × q_C) :=
  some (Z, M)
theorem moX5_trace_b161 (h : Nat) (Z : q_Z) (M : q_C) (Z' : q_Z) (M' : q_C) (hf : fX5_trace_b161 h Z M = some (Z', M')) : q_le Z Z' := by
  unfold fX5_trace_b161 at hf
  cases hf
  exact q_le.rf
set_option maxHeartbeats 4000000 in
set_option maxRecDepth 100000 in
theorem bX5_trace_161 (E : q_E p s m meth c cX5_trace 4 RX5 none "trace" D cA) (hR : 4 ≤ R.frames ∧ 104 ≤ R.locals) (Zi : q_Z) {Z : q_Z} (hi : q_le Zi Z) {Z' : q_Z} {M' : q_C} (hbd : zS Z' - zS Zi ≤ R.cells ∧ zC Z' - zC Zi ≤ R.slots)  (h : Nat) (M : q_C) (H : Heap) (locs : List Loc) (ls : Array Slot) (hf : fX5_trace_b161 h Z M = some (Z', M')) (hH : q_Hh D cA z0 s Z M H locs) (hl : lv_has ls 4 [])  : W p l e R s m args below meth c H locs (zS Z - zS Zi) (zC Z - zC Zi) (MQ below (q_Q D cA z0 none Z' M') args s (zS Z' - zS Zi) (zC Z' - zC Zi) (fun q => z0 ≤ q)) (F0 m 161 ls []) := by
  have hx := E.1
  have hb := E.2.1
  have hown := E.2.2.2.1
  have hT := E.2.2.2.2.2.2.2.1
  have hcc := q_bd hi (moX5_trace_b161 _ _ _ _ _ hf) hbd
  unfold fX5_trace_b161 at hf
  cases hf
  exact q_vret E hH dX5_trace_161
def fX5_trace_b100 (h : Nat) (v1 : Option Nat) (v2 : Option Nat) (Z : q_Z) (M : q_C) : Option (q_Z × q_C) :=
  Option.bind v2 fun a_37 =>
  q_gd (zK Z a_37 == 10) <|
  Option.bind (fX0_begin a_37 (some h) Z M) fun M_41 =>
  q_gd (zK Z h == 15) <|
  q_nm ((gI M_41 h 6) - (1 : Int32)) fun v3_43 =>
  Option.bind (q_it (fun x => fX5_trace_L112 h v1 (some a_37) x.1 Z x.2) q_FU (v3_43, M_41)) fun r_62 =>
  q_nm r_62 fun M_64 =>
  fX5_trace_b161 h Z M_64
theorem moX5_trace_b100 (h : Nat) (v1 : Option Nat) (v2 : Option Nat) (Z : q_Z) (M : q_C) (Z' : q_Z) (M' : q_C) (hf : fX5_trace_b100 h v1 v2 Z M = some (Z', M')) : q_le Z Z' := by
  unfold fX5_trace_b100 at hf
  obtain ⟨a_37, -, hf⟩ := q_biE hf
  obtain ⟨-, hf⟩ := q_gdE hf
  obtain ⟨M_41, hw_40, hf⟩ := q_biE hf
  obtain ⟨-, hf⟩ := q_gdE hf
  replace hf := q_nmE (x := _) rfl hf
  obtain ⟨r_62, hr_63, hf⟩ := q_biE hf
  replace hf := q_nmE (x := _) rfl hf
  exact moX5_trace_b161 _ _ _ _ _ hf
set_option maxHeartbeats 4000000 in
set_option maxRecDepth 100000 in
theorem bX5_trace_100 (E : q_E p s m meth c cX5_trace 4 RX5 none "trace" D cA) (hR : 4 ≤ R.frames ∧ 104 ≤ R.locals) (Zi : q_Z) {Z : q_Z} (hi : q_le Zi Z) {Z' : q_Z} {M' : q_C} (hbd : zS Z' - zS Zi ≤ R.cells ∧ zC Z' - zC Zi ≤ R.slots)  (h : Nat) (v1 : Option Nat) (v2 : Option Nat) (M : q_C) (H : Heap) (locs : List Loc) (ls : Array Slot) (hf : fX5_trace_b100 h v1 v2 Z M = some (Z', M')) (hH : q_Hh D cA z0 s Z M H locs) (hl : lv_has ls 4 [(0, .ref h), (1, va_rf v1), (2, va_rf v2)])  : W p l e R s m args below meth c H locs (zS Z - zS Zi) (zC Z - zC Zi) (MQ below (q_Q D cA z0 none Z' M') args s (zS Z' - zS Zi) (zC Z' - zC Zi) (fun q => z0 ≤ q)) (F0 m 100 ls []) := by
  have hx := E.1
  have hb := E.2.1
  have hown := E.2.2.2.1
  have hT := E.2.2.2.2.2.2.2.1
  have hcc := q_bd hi (moX5_trace_b100 _ _ _ _ _ _ _ hf) hbd
  unfold fX5_trace_b100 at hf
  refine q_aload_n hx hb dX5_trace_100 rfl (lv_at hl 2 rfl) ?_
  refine lv_aload_n hx hb dX5_trace_101 rfl (lv_at hl 0 rfl) ?_
  obtain ⟨a_37, he_38, hf⟩ := q_biE hf
  subst he_38
  obtain ⟨hk_39, hf⟩ := q_gdE hf
  have hk_39 := q_keq hk_39
  obtain ⟨M_41, hw_40, hf⟩ := q_biE hf
  refine q_cV (As := [.ref h]) (rest := []) (st1 := []) E hH (tX0_begin l D cA z0 a_37 (some h) Z M M_41 hw_40) mw_X0_begin mi_X0_begin (ci := 0) rfl ms_X0_begin kM_X5_47 hk_39 hcc rfl rfl rfl hl.1 rfl rfl (Nat.le_of_ble_eq_true rfl) ⟨Nat.le_trans (by decide) hR.1, Nat.le_trans (by decide) hR.2⟩ dX5_trace_102 (fun H locs hH => ?_)
  refine lv_aload_n hx hb dX5_trace_105 rfl (lv_at hl 0 rfl) ?_
  obtain ⟨hk_42, hf⟩ := q_gdE hf
  have hk_42 := q_keq hk_42
  refine q_getI E hH (ci := 5) rfl 6 (by decide) kF_X5_30 (fun _ _ _ => rfl) hk_42 dX5_trace_106 ?_
  refine lv_iconst (v := 1) hx hb dX5_trace_109 (by decide) ?_
  refine lv_isub hx hb dX5_trace_110 ?_
  refine lv_topi (fun v3_43 hn_44 => ?_)
  replace hf := q_nmE hn_44 hf
  clear hn_44
  refine lv_istore_n (lv' := [(3, .int v3_43), (0, .ref h), (1, va_rf v1), (2, .ref a_37)]) hx hb dX5_trace_111 rfl hl (by decide) rfl (fun ls hl => ?_)
  obtain ⟨r_62, hr_63, hf⟩ := q_biE hf
  refine lX5_trace_112 E hR hcc h v1 (some a_37) Z q_FU v3_43 M_41 _ _ _ r_62 hr_63 hH (lv_sub hl [1, 2, 3, 0] rfl) (fun M_64 H locs ls he_65 hH hl => ?_)
  · subst he_65
    replace hf := q_nmE (x := M_64) rfl hf
    exact bX5_trace_161 E hR Zi hi hbd h M_64 _ _ _  hf hH (lv_sub hl [] rfl)
def fX5_trace_b29 (h : Nat) (v1 : Option Nat) (v2 : Option Nat) (Z : q_Z) (M : q_C) : Option (q_Z × q_C) :=
  q_gd (zK Z h == 15) <|
  q_nm (sI M h 8 (gI M h 6)) fun M_10 =>
  q_nm (sI M_10 h 9 ((gI M_10 h 6) - (1 : Int32))) fun M_11 =>
  Option.bind v2 fun a_12 =>
  q_gd (zK Z a_12 == 10) <|
  Option.bind (fX0_begin a_12 (some h) Z M_11) fun M_16 =>
  Option.bind (fX5_write h (some a_12) Z M_16) fun M_18 =>
  q_nm (gI M_18 h 6) fun v3_19 =>
  Option.bind (q_it (fun x => fX5_trace_L62 h v1 (some a_12) x.1 Z x.2) q_FU (v3_19, M_18)) fun r_34 =>
  q_nm r_34 fun M_36 =>
  fX5_trace_b100 h v1 (some a_12) Z M_36
theorem moX5_trace_b29 (h : Nat) (v1 : Option Nat) (v2 : Option Nat) (Z : q_Z) (M : q_C) (Z' : q_Z) (M' : q_C) (hf : fX5_trace_b29 h v1 v2 Z M = some (Z', M')) : q_le Z Z' := by
  unfold fX5_trace_b29 at hf
  obtain ⟨-, hf⟩ := q_gdE hf
  replace hf := q_nmE (x := _) rfl hf
  replace hf := q_nmE (x := _) rfl hf
  obtain ⟨a_12, -, hf⟩ := q_biE hf
  obtain ⟨-, hf⟩ := q_gdE hf
  obtain ⟨M_16, hw_15, hf⟩ := q_biE hf
  obtain ⟨M_18, hw_17, hf⟩ := q_biE hf
  replace hf := q_nmE (x := _) rfl hf
  obtain ⟨r_34, hr_35, hf⟩ := q_biE hf
  replace hf := q_nmE (x := _) rfl hf
  exact moX5_trace_b100 _ _ _ _ _ _ _ hf
set_option maxHeartbeats 4000000 in
set_option maxRecDepth 100000 in
theorem bX5_trace_29 (E : q_E p s m meth c cX5_trace 4 RX5 none "trace" D cA) (hR : 4 ≤ R.frames ∧ 104 ≤ R.locals) (Zi : q_Z) {Z : q_Z} (hi : q_le Zi Z) {Z' : q_Z} {M' : q_C} (hbd : zS Z' - zS Zi ≤ R.cells ∧ zC Z' - zC Zi ≤ R.slots)  (h : Nat) (v1 : Option Nat) (v2 : Option Nat) (M : q_C) (H : Heap) (locs : List Loc) (ls : Array Slot) (hf : fX5_trace_b29 h v1 v2 Z M = some (Z', M')) (hH : q_Hh D cA z0 s Z M H locs) (hl : lv_has ls 4 [(0, .ref h), (1, va_rf v1), (2, va_rf v2)])  : W p l e R s m args below meth c H locs (zS Z - zS Zi) (zC Z - zC Zi) (MQ below (q_Q D cA z0 none Z' M') args s (zS Z' - zS Zi) (zC Z' - zC Zi) (fun q => z0 ≤ q)) (F0 m 29 ls []) := by
  have hx := E.1
  have hb := E.2.1
  have hown := E.2.2.2.1
  have hT := E.2.2.2.2.2.2.2.1
  have hcc := q_bd hi (moX5_trace_b29 _ _ _ _ _ _ _ hf) hbd
  unfold fX5_trace_b29 at hf
  refine lv_aload_n hx hb dX5_trace_29 rfl (lv_at hl 0 rfl) ?_
  refine lv_aload_n hx hb dX5_trace_30 rfl (lv_at hl 0 rfl) ?_
  obtain ⟨hk_9, hf⟩ := q_gdE hf
  have hk_9 := q_keq hk_9
  refine q_getI E hH (ci := 5) rfl 6 (by decide) kF_X5_30 (fun _ _ _ => rfl) hk_9 dX5_trace_31 ?_
  refine q_putI E hH (ci := 5) rfl 8 (by decide) kF_X5_37 rfl (fun _ _ _ => rfl) (x := gI M h 6) hk_9 rfl rfl dX5_trace_34 hf (fun M_10 H locs hH hf => ?_)
  refine lv_aload_n hx hb dX5_trace_37 rfl (lv_at hl 0 rfl) ?_
  refine lv_aload_n hx hb dX5_trace_38 rfl (lv_at hl 0 rfl) ?_
  refine q_getI E hH (ci := 5) rfl 6 (by decide) kF_X5_30 (fun _ _ _ => rfl) hk_9 dX5_trace_39 ?_
  refine lv_iconst (v := 1) hx hb dX5_trace_42 (by decide) ?_
  refine lv_isub hx hb dX5_trace_43 ?_
  refine q_putI E hH (ci := 5) rfl 9 (by decide) kF_X5_40 rfl (fun _ _ _ => rfl) (x := (gI M_10 h 6) - (1 : Int32)) hk_9 rfl rfl dX5_trace_44 hf (fun M_11 H locs hH hf => ?_)
  refine q_aload_n hx hb dX5_trace_47 rfl (lv_at hl 2 rfl) ?_
  refine lv_aload_n hx hb dX5_trace_48 rfl (lv_at hl 0 rfl) ?_
  obtain ⟨a_12, he_13, hf⟩ := q_biE hf
  subst he_13
  obtain ⟨hk_14, hf⟩ := q_gdE hf
  have hk_14 := q_keq hk_14
  obtain ⟨M_16, hw_15, hf⟩ := q_biE hf
  refine q_cV (As := [.ref h]) (rest := []) (st1 := []) E hH (tX0_begin l D cA z0 a_12 (some h) Z M_11 M_16 hw_15) mw_X0_begin mi_X0_begin (ci := 0) rfl ms_X0_begin kM_X5_47 hk_14 hcc rfl rfl rfl hl.1 rfl rfl (Nat.le_of_ble_eq_true rfl) ⟨Nat.le_trans (by decide) hR.1, Nat.le_trans (by decide) hR.2⟩ dX5_trace_49 (fun H locs hH => ?_)
  refine lv_aload_n hx hb dX5_trace_52 rfl (lv_at hl 0 rfl) ?_
  refine lv_aload_n hx hb dX5_trace_53 rfl (lv_at hl 2 rfl) ?_
  obtain ⟨M_18, hw_17, hf⟩ := q_biE hf
  refine q_cV (As := [.ref a_12]) (rest := []) (st1 := []) E hH (tX5_write l D cA z0 h (some a_12) Z M_16 M_18 hw_17) mw_X5_write mi_X5_write (ci := 5) rfl ms_X5_write kM_X5_53 hk_9 hcc rfl rfl rfl hl.1 rfl rfl (Nat.le_of_ble_eq_true rfl) ⟨Nat.le_trans (by decide) hR.1, Nat.le_trans (by decide) hR.2⟩ dX5_trace_54 (fun H locs hH => ?_)
  refine lv_aload_n hx hb dX5_trace_57 rfl (lv_at hl 0 rfl) ?_
  refine q_getI E hH (ci := 5) rfl 6 (by decide) kF_X5_30 (fun _ _ _ => rfl) hk_9 dX5_trace_58 ?_
  refine lv_topi (fun v3_19 hn_20 => ?_)
  replace hf := q_nmE hn_20 hf
  clear hn_20
  refine lv_istore_n (lv' := [(3, .int v3_19), (0, .ref h), (1, va_rf v1), (2, .ref a_12)]) hx hb dX5_trace_61 rfl hl (by decide) rfl (fun ls hl => ?_)
  obtain ⟨r_34, hr_35, hf⟩ := q_biE hf
  refine lX5_trace_62 E hR hcc h v1 (some a_12) Z q_FU v3_19 M_18 _ _ _ r_34 hr_35 hH (lv_sub hl [1, 2, 3, 0] rfl) (fun M_36 H locs ls he_66 hH hl => ?_)
  · subst he_66
    replace hf := q_nmE (x := M_36) rfl hf
    exact bX5_trace_100 E hR Zi hi hbd h v1 (some a_12) M_36 _ _ _  hf hH (lv_sub hl [0, 1, 2] rfl)
def fX5_trace_b26 (h : Nat) (v1 : Option Nat) (v2 : Option Nat) (s0 : Nat) (s1 : Nat) (Z : q_Z) (M : q_C) : Option (q_Z × q_C) :=
  q_gd (zK Z s1 == 15) <|
  q_nm (sR M s1 10 (some s0)) fun M_8 =>
  fX5_trace_b29 h v1 v2 Z M_8
theorem moX5_trace_b26 (h : Nat) (v1 : Option Nat) (v2 : Option Nat) (s0 : Nat) (s1 : Nat) (Z : q_Z) (M : q_C) (Z' : q_Z) (M' : q_C) (hf : fX5_trace_b26 h v1 v2 s0 s1 Z M = some (Z', M')) : q_le Z Z' := by
  unfold fX5_trace_b26 at hf
  obtain ⟨-, hf⟩ := q_gdE hf
  replace hf := q_nmE (x := _) rfl hf
  exact moX5_trace_b29 _ _ _ _ _ _ _ hf
set_option maxHeartbeats 4000000 in
set_option maxRecDepth 100000 in
theorem bX5_trace_26 (E : q_E p s m meth c cX5_trace 4 RX5 none "trace" D cA) (hR : 4 ≤ R.frames ∧ 104 ≤ R.locals) (Zi : q_Z) {Z : q_Z} (hi : q_le Zi Z) {Z' : q_Z} {M' : q_C} (hbd : zS Z' - zS Zi ≤ R.cells ∧ zC Z' - zC Zi ≤ R.slots)  (h : Nat) (v1 : Option Nat) (v2 : Option Nat) (s0 : Nat) (s1 : Nat) (M : q_C) (H : Heap) (locs : List Loc) (ls : Array Slot) (hf : fX5_trace_b26 h v1 v2 s0 s1 Z M = some (Z', M')) (hH : q_Hh D cA z0 s Z M H locs) (hl : lv_has ls 4 [(0, .ref h), (1, va_rf v1), (2, va_rf v2)])  : W p l e R s m args below meth c H locs (zS Z - zS Zi) (zC Z - zC Zi) (MQ below (q_Q D cA z0 none Z' M') args s (zS Z' - zS Zi) (zC Z' - zC Zi) (fun q => z0 ≤ q)) (F0 m 26 ls [.ref s0, .ref s1]) := by
  have hx := E.1
  have hb := E.2.1
  have hown := E.2.2.2.1
  have hT := E.2.2.2.2.2.2.2.1
  have hcc := q_bd hi (moX5_trace_b26 _ _ _ _ _ _ _ _ _ hf) hbd
  unfold fX5_trace_b26 at hf
  obtain ⟨hk_7, hf⟩ := q_gdE hf
  have hk_7 := q_keq hk_7
  refine q_putR E hH (ci := 5) rfl 10 (by decide) kF_X5_43 rfl (fun _ _ _ => rfl) (x := (some s0)) hk_7 (q_rff _ "" _ (Or.inr ⟨_, rfl⟩)).1 (q_rff _ "" _ (Or.inr ⟨_, rfl⟩)).2 dX5_trace_26 hf (fun M_8 H locs hH hf => ?_)
  exact bX5_trace_29 E hR Zi hi hbd h v1 v2 M_8 _ _ _  hf hH (lv_sub hl [0, 1, 2] rfl)
def fX5_trace (h : Nat) (v1 : Option Nat) (v2 : Option Nat) (Z : q_Z) (M : q_C) : Option (q_Z × q_C) :=
  q_gd (zK Z h == 15) <|
  if gI M h 7 = 0 then
    q_gd (decide ((1 : Int32) = 0) || decide ((1 : Int32) = 1)) <|
    q_nm (sI M h 7 (1 : Int32)) fun M_3 =>
    q_on (gR M_3 h 10) (
      q_gd (zK Z (zS Z) == 0) <|
      fX5_trace_b26 h v1 v2 (zS Z) h (zN Z 2 602) (cN M_3 (zS Z))
    ) fun a_5 =>
      fX5_trace_b29 h v1 v2 Z M_3
  else
    some (Z, M)
theorem moX5_trace (h : Nat) (v1 : Option Nat) (v2 : Option Nat) (Z : q_Z) (M : q_C) (Z' : q_Z) (M' : q_C) (hf : fX5_trace h v1 v2 Z M = some (Z', M')) : q_le Z Z' := by
  unfold fX5_trace at hf
  obtain ⟨-, hf⟩ := q_gdE hf
  rcases q_ifC hf with hf | hf
  · obtain ⟨-, hf⟩ := q_gdE hf
    replace hf := q_nmE (x := _) rfl hf
    rcases q_onC hf with hf | ⟨a_5, hf⟩
    · obtain ⟨-, hf⟩ := q_gdE hf
      exact (q_le.nw (kd := 2) (n := 602)).tr (moX5_trace_b26 _ _ _ _ _ _ _ _ _ hf)
    · exact moX5_trace_b29 _ _ _ _ _ _ _ hf
  · cases hf
    exact q_le.rf
set_option maxHeartbeats 4000000 in
set_option maxRecDepth 100000 in
theorem bX5_trace_0 (E : q_E p s m meth c cX5_trace 4 RX5 none "trace" D cA) (hR : 4 ≤ R.frames ∧ 104 ≤ R.locals) (Zi : q_Z) {Z : q_Z} (hi : q_le Zi Z) {Z' : q_Z} {M' : q_C} (hbd : zS Z' - zS Zi ≤ R.cells ∧ zC Z' - zC Zi ≤ R.slots)  (h : Nat) (v1 : Option Nat) (v2 : Option Nat) (M : q_C) (H : Heap) (locs : List Loc) (ls : Array Slot) (hf : fX5_trace h v1 v2 Z M = some (Z', M')) (hH : q_Hh D cA z0 s Z M H locs) (hl : lv_has ls 4 [(0, .ref h), (1, va_rf v1), (2, va_rf v2)])  : W p l e R s m args below meth c H locs (zS Z - zS Zi) (zC Z - zC Zi) (MQ below (q_Q D cA z0 none Z' M') args s (zS Z' - zS Zi) (zC Z' - zC Zi) (fun q => z0 ≤ q)) (F0 m 0 ls []) := by
  have hx := E.1
  have hb := E.2.1
  have hown := E.2.2.2.1
  have hT := E.2.2.2.2.2.2.2.1
  have hcc := q_bd hi (moX5_trace _ _ _ _ _ _ _ hf) hbd
  unfold fX5_trace at hf
  refine lv_aload_n hx hb dX5_trace_0 rfl (lv_at hl 0 rfl) ?_
  obtain ⟨hk_1, hf⟩ := q_gdE hf
  have hk_1 := q_keq hk_1
  refine q_getI E hH (ci := 5) rfl 7 (by decide) kF_X5_33 (fun _ _ _ => rfl) hk_1 dX5_trace_1 ?_
  refine lv_if_eq (tgt := 8) hx hb dX5_trace_4 (by decide) (fun cc_67 => ?_) (fun cc_67 => ?_)
  · replace hf := q_ifT cc_67 hf
    clear cc_67
    refine lv_aload_n hx hb dX5_trace_8 rfl (lv_at hl 0 rfl) ?_
    refine lv_iconst (v := 1) hx hb dX5_trace_9 (by decide) ?_
    obtain ⟨hz_2, hf⟩ := q_gdE hf
    refine q_putI E hH (ci := 5) rfl 7 (by decide) kF_X5_33 rfl (fun _ _ _ => rfl) (x := (1 : Int32)) hk_1 (q_zb hz_2).1 (q_zb hz_2).2 dX5_trace_10 hf (fun M_3 H locs hH hf => ?_)
    refine lv_aload_n hx hb dX5_trace_13 rfl (lv_at hl 0 rfl) ?_
    refine q_getR E hH (ci := 5) rfl 10 (by decide) kF_X5_43 (fun _ _ _ => rfl) hk_1 dX5_trace_14 ?_
    refine q_ifnonnull (tgt := 29) hx hb dX5_trace_17 (by decide) hf (fun cc_4 hf => ?_) (fun a_5 cc_4 hf => ?_)
    · clear cc_4
      refine lv_aload_n hx hb dX5_trace_20 rfl (lv_at hl 0 rfl) ?_
      refine lv_sipush (v := 602) hx hb dX5_trace_21 (by decide) ?_
      obtain ⟨hz_6, hf⟩ := q_gdE hf
      have hz_6 := q_keq hz_6
      have hq : q_le (zN Z 2 602) Z' := moX5_trace_b26 _ _ _ _ _ _ _ _ _ hf
      refine q_newarr2 (N := 602) E hH kA_long (by decide) (by decide) (by decide) hz_6 (q_nwb (kd := 2) (n := 602) hi hq hbd) dX5_trace_24 (fun H hH => ?_)
      refine q_wc (c1 := zS (zN Z 2 602) - zS Zi) (s1 := zC (zN Z 2 602) - zC Zi) (q_bn1 hi) (q_bn2 hi) ?_
      exact bX5_trace_26 E hR Zi (hi.tr q_le.nw) hbd h v1 v2 (zS Z) h (cN M_3 (zS Z)) _ _ _  hf hH (lv_sub hl [0, 1, 2] rfl)
    · clear cc_4
      exact bX5_trace_29 E hR Zi hi hbd h v1 v2 M_3 _ _ _  hf hH (lv_sub hl [0, 1, 2] rfl)
  · replace hf := q_ifF cc_67 hf
    clear cc_67
    cases hf
    exact q_vret E hH dX5_trace_7
set_option maxRecDepth 100000 in
theorem tX5_trace (l : Launch) (D : va_G) (cA : Nat → ClassId) (z0 : Nat) (h : Nat) (v1 : Option Nat) (v2 : Option Nat) (Z : q_Z) (M : q_C) (Z' : q_Z) (M' : q_C) (hf : fX5_trace h v1 v2 Z M = some (Z', M')) : q_Ct l D cA z0 yX5_trace cX5_trace 4 none 4 104 [.ref h, va_rf v1, va_rf v2] Z M none Z' M' (zS Z' - zS Z) (zC Z' - zC Z) := by
  cases v1 <;>
  cases v2 <;>
  (refine q_start (plainFor_of_name (by decide)) (Nat.le_of_ble_eq_true rfl) (fun p e s m below meth c H ls E hH hl => ?_)
   refine q_wc (c1 := zS Z - zS Z) (s1 := zC Z - zC Z) (Nat.sub_self _).symm (Nat.sub_self _).symm ?_
   exact bX5_trace_0 E ⟨Nat.le_refl _, Nat.le_refl _⟩ Z q_le.rf ⟨Nat.le_refl _, Nat.le_refl _⟩ h _ _ M H [] ls hf hH hl)
def fX6_tracedWay_b22 (h : Nat) (v2 : Option Nat) (Z : q_Z) (M : q_C) : Option (Option Nat × q_Z × q_C) :=
  some (v2, Z, M)
theorem moX6_tracedWay_b22 (h : Nat) (v2 : Option Nat) (Z : q_Z) (M : q_C) (r : Option Nat) (Z' : q_Z) (M' : q_C) (hf : fX6_tracedWay_b22 h v2 Z M = some (r, Z', M')) : q_le Z Z' := by
  unfold fX6_tracedWay_b22 at hf
  cases hf
  exact q_le.rf
set_option maxHeartbeats 4000000 in
set_option maxRecDepth 100000 in
theorem bX6_tracedWay_22 (E : q_E p s m meth c cX6_tracedWay 3 RX6 (some (.object "CometBench$Way")) "tracedWay" D cA) (hR : 5 ≤ R.frames ∧ 127 ≤ R.locals) (Zi : q_Z) {Z : q_Z} (hi : q_le Zi Z) {r : Option Nat} {Z' : q_Z} {M' : q_C} (hbd : zS Z' - zS Zi ≤ R.cells ∧ zC Z' - zC Zi ≤ R.slots)  (h : Nat) (v2 : Option Nat) (M : q_C) (H : Heap) (locs : List Loc) (ls : Array Slot) (hf : fX6_tracedWay_b22 h v2 Z M = some (r, Z', M')) (hH : q_Hh D cA z0 s Z M H locs) (hl : lv_has ls 3 [(2, va_rf v2)])  : W p l e R s m args below meth c H locs (zS Z - zS Zi) (zC Z - zC Zi) (MQ below (q_Q D cA z0 (some (va_rf r)) Z' M') args s (zS Z' - zS Zi) (zC Z' - zC Zi) (fun q => z0 ≤ q)) (F0 m 22 ls []) := by
  have hx := E.1
  have hb := E.2.1
  have hown := E.2.2.2.1
  have hT := E.2.2.2.2.2.2.2.1
  have hcc := q_bd hi (moX6_tracedWay_b22 _ _ _ _ _ _ _ hf) hbd
  unfold fX6_tracedWay_b22 at hf
  refine q_aload_n hx hb dX6_tracedWay_22 rfl (lv_at hl 0 rfl) ?_
  cases hf
  exact q_aret (v := _) E hH dX6_tracedWay_23
def fX6_tracedWay (h : Nat) (v1 : Int32) (Z : q_Z) (M : q_C) : Option (Option Nat × q_Z × q_C) :=
  q_gd (zK Z h == 16) <|
  Option.bind (fX6_keptWay h v1 Z M) fun r_2 =>
  q_on r_2 (
    fX6_tracedWay_b22 h none Z M
  ) fun a_5 =>
    Option.bind (gR M h 1) fun a_6 =>
    Option.bind (gR M h 12) fun a_8 =>
    q_gd (zK Z a_5 == 15) <|
    q_b2 (fX5_trace a_5 (some a_6) (some a_8) Z M) fun Z_13 M_12 =>
    fX6_tracedWay_b22 h (some a_5) Z_13 M_12
theorem moX6_tracedWay (h : Nat) (v1 : Int32) (Z : q_Z) (M : q_C) (r : Option Nat) (Z' : q_Z) (M' : q_C) (hf : fX6_tracedWay h v1 Z M = some (r, Z', M')) : q_le Z Z' := by
  unfold fX6_tracedWay at hf
  obtain ⟨-, hf⟩ := q_gdE hf
  obtain ⟨r_2, hw_3, hf⟩ := q_biE hf
  rcases q_onC hf with hf | ⟨a_5, hf⟩
  · exact moX6_tracedWay_b22 _ _ _ _ _ _ _ hf
  · obtain ⟨a_6, -, hf⟩ := q_biE hf
    obtain ⟨a_8, -, hf⟩ := q_biE hf
    obtain ⟨-, hf⟩ := q_gdE hf
    obtain ⟨Z_13, M_12, hw_11, hf⟩ := q_b2E hf
    have hq := moX5_trace _ _ _ _ _ _ _ hw_11
    exact hq.tr (moX6_tracedWay_b22 _ _ _ _ _ _ _ hf)
set_option maxHeartbeats 4000000 in
set_option maxRecDepth 100000 in
theorem bX6_tracedWay_0 (E : q_E p s m meth c cX6_tracedWay 3 RX6 (some (.object "CometBench$Way")) "tracedWay" D cA) (hR : 5 ≤ R.frames ∧ 127 ≤ R.locals) (Zi : q_Z) {Z : q_Z} (hi : q_le Zi Z) {r : Option Nat} {Z' : q_Z} {M' : q_C} (hbd : zS Z' - zS Zi ≤ R.cells ∧ zC Z' - zC Zi ≤ R.slots)  (h : Nat) (v1 : Int32) (M : q_C) (H : Heap) (locs : List Loc) (ls : Array Slot) (hf : fX6_tracedWay h v1 Z M = some (r, Z', M')) (hH : q_Hh D cA z0 s Z M H locs) (hl : lv_has ls 3 [(0, .ref h), (1, .int v1)])  : W p l e R s m args below meth c H locs (zS Z - zS Zi) (zC Z - zC Zi) (MQ below (q_Q D cA z0 (some (va_rf r)) Z' M') args s (zS Z' - zS Zi) (zC Z' - zC Zi) (fun q => z0 ≤ q)) (F0 m 0 ls []) := by
  have hx := E.1
  have hb := E.2.1
  have hown := E.2.2.2.1
  have hT := E.2.2.2.2.2.2.2.1
  have hcc := q_bd hi (moX6_tracedWay _ _ _ _ _ _ _ hf) hbd
  unfold fX6_tracedWay at hf
  refine lv_aload_n hx hb dX6_tracedWay_0 rfl (lv_at hl 0 rfl) ?_
  refine lv_iload_n hx hb dX6_tracedWay_1 rfl (lv_at hl 1 rfl) ?_
  obtain ⟨hk_1, hf⟩ := q_gdE hf
  have hk_1 := q_keq hk_1
  obtain ⟨r_2, hw_3, hf⟩ := q_biE hf
  refine q_cV (As := [.int v1]) (rest := []) (st1 := [va_rf r_2]) E hH (tX6_keptWay l D cA z0 h v1 Z M r_2 hw_3) mw_X6_keptWay mi_X6_keptWay (ci := 6) rfl ms_X6_keptWay kM_X6_143 hk_1 hcc rfl rfl rfl hl.1 rfl rfl (Nat.le_of_ble_eq_true rfl) ⟨Nat.le_trans (by decide) hR.1, Nat.le_trans (by decide) hR.2⟩ dX6_tracedWay_2 (fun H locs hH => ?_)
  refine q_astore_n (lv' := [(2, va_rf r_2), (0, .ref h), (1, .int v1)]) hx hb dX6_tracedWay_5 rfl hl (by decide) rfl (fun ls hl => ?_)
  refine q_aload_n hx hb dX6_tracedWay_6 rfl (lv_at hl 0 rfl) ?_
  refine q_ifnull (tgt := 22) hx hb dX6_tracedWay_7 (by decide) hf (fun cc_4 hf => ?_) (fun a_5 cc_4 hf => ?_)
  · subst cc_4
    exact bX6_tracedWay_22 E hR Zi hi hbd h none M _ _ _  hf hH (lv_sub hl [0] rfl)
  · subst cc_4
    refine lv_aload_n hx hb dX6_tracedWay_10 rfl (lv_at hl 0 rfl) ?_
    refine lv_aload_n hx hb dX6_tracedWay_11 rfl (lv_at hl 1 rfl) ?_
    refine q_getR E hH (ci := 6) rfl 1 (by decide) kF_X6_16 (fun _ _ _ => rfl) hk_1 dX6_tracedWay_12 ?_
    obtain ⟨a_6, he_7, hf⟩ := q_biE hf
    rw [he_7]
    refine lv_aload_n hx hb dX6_tracedWay_15 rfl (lv_at hl 1 rfl) ?_
    refine q_getR E hH (ci := 6) rfl 12 (by decide) kF_X6_59 (fun _ _ _ => rfl) hk_1 dX6_tracedWay_16 ?_
    obtain ⟨a_8, he_9, hf⟩ := q_biE hf
    rw [he_9]
    obtain ⟨hk_10, hf⟩ := q_gdE hf
    have hk_10 := q_keq hk_10
    obtain ⟨Z_13, M_12, hw_11, hf⟩ := q_b2E hf
    have hq1 := (moX5_trace _ _ _ _ _ _ _ hw_11)
    have hq := moX6_tracedWay_b22 _ _ _ _ _ _ _ hf
    refine q_cV (As := [.ref a_6, .ref a_8]) (rest := []) (st1 := []) E hH (tX5_trace l D cA z0 a_5 (some a_6) (some a_8) Z M Z_13 M_12 hw_11) mw_X5_trace mi_X5_trace (ci := 5) rfl ms_X5_trace kM_X6_218 hk_10 (q_bs hi hq1 hq hbd) (q_be1 hi hq1) (q_be2 hi hq1) rfl hl.1 rfl rfl (Nat.le_of_ble_eq_true rfl) ⟨Nat.le_trans (by decide) hR.1, Nat.le_trans (by decide) hR.2⟩ dX6_tracedWay_19 (fun H locs hH => ?_)
    exact bX6_tracedWay_22 E hR Zi (hi.tr hq1) hbd h (some a_5) M_12 _ _ _  hf hH (lv_sub hl [0] rfl)
set_option maxRecDepth 100000 in
theorem tX6_tracedWay (l : Launch) (D : va_G) (cA : Nat → ClassId) (z0 : Nat) (h : Nat) (v1 : Int32) (Z : q_Z) (M : q_C) (r : Option Nat) (Z' : q_Z) (M' : q_C) (hf : fX6_tracedWay h v1 Z M = some (r, Z', M')) : q_Ct l D cA z0 yX6_tracedWay cX6_tracedWay 3 (some (.object "CometBench$Way")) 5 127 [.ref h, .int v1] Z M (some (va_rf r)) Z' M' (zS Z' - zS Z) (zC Z' - zC Z) := by
  (refine q_start (plainFor_of_name (by decide)) (Nat.le_of_ble_eq_true rfl) (fun p e s m below meth c H ls E hH hl => ?_)
   refine q_wc (c1 := zS Z - zS Z) (s1 := zC Z - zC Z) (Nat.sub_self _).symm (Nat.sub_self _).symm ?_
   exact bX6_tracedWay_0 E ⟨Nat.le_refl _, Nat.le_refl _⟩ Z q_le.rf ⟨Nat.le_refl _, Nat.le_refl _⟩ h _ M H [] ls hf hH hl)
def fX6_at_b21 (h : Nat) (Z : q_Z) (M : q_C) : Option (Int32 × q_Z × q_C) :=
  some ((-1000000 : Int32), Z, M)
theorem moX6_at_b21 (h : Nat) (Z : q_Z) (M : q_C) (r : Int32) (Z' : q_Z) (M' : q_C) (hf : fX6_at_b21 h Z M = some (r, Z', M')) : q_le Z Z' := by
  unfold fX6_at_b21 at hf
  cases hf
  exact q_le.rf
set_option maxHeartbeats 4000000 in
set_option maxRecDepth 100000 in
theorem bX6_at_21 (E : q_E p s m meth c cX6_at 5 RX6 (some .int) "at" D cA) (hR : 6 ≤ R.frames ∧ 149 ≤ R.locals) (Zi : q_Z) {Z : q_Z} (hi : q_le Zi Z) {r : Int32} {Z' : q_Z} {M' : q_C} (hbd : zS Z' - zS Zi ≤ R.cells ∧ zC Z' - zC Zi ≤ R.slots)  (h : Nat) (M : q_C) (H : Heap) (locs : List Loc) (ls : Array Slot) (hf : fX6_at_b21 h Z M = some (r, Z', M')) (hH : q_Hh D cA z0 s Z M H locs) (hl : lv_has ls 5 [])  : W p l e R s m args below meth c H locs (zS Z - zS Zi) (zC Z - zC Zi) (MQ below (q_Q D cA z0 (some (.int r)) Z' M') args s (zS Z' - zS Zi) (zC Z' - zC Zi) (fun q => z0 ≤ q)) (F0 m 21 ls []) := by
  have hx := E.1
  have hb := E.2.1
  have hown := E.2.2.2.1
  have hT := E.2.2.2.2.2.2.2.1
  have hcc := q_bd hi (moX6_at_b21 _ _ _ _ _ _ hf) hbd
  unfold fX6_at_b21 at hf
  refine lv_ldc hx hb hown (hT.1 _ _ kK_X6_147) dX6_at_21 ?_
  cases hf
  exact q_iret E hH dX6_at_23
def fX6_at_b5 (h : Nat) (v2 : Int32) (v3 : Int32) (s0 : Option Nat) (Z : q_Z) (M : q_C) : Option (Int32 × q_Z × q_C) :=
  q_on s0 (
    fX6_at_b21 h Z M
  ) fun a_7 =>
    q_gd (zK Z a_7 == 15) <|
    Option.bind (fX5_isThere a_7 v2 Z M) fun r_9 =>
    if r_9 = 0 then
      fX6_at_b21 h Z M
    else
      if v3 = 0 then
        Option.bind (fX5_xAt a_7 v2 Z M) fun r_11 =>
        some (r_11, Z, M)
      else
      if v3 = 1 then
        Option.bind (fX5_yAt a_7 v2 Z M) fun r_13 =>
        some (r_13, Z, M)
      else
      if v3 = 2 then
        Option.bind (fX5_xAt a_7 (v2 + (1 : Int32)) Z M) fun r_15 =>
        Option.bind (fX5_xAt a_7 v2 Z M) fun r_17 =>
        some ((r_15 - r_17), Z, M)
      else
      if v3 = 3 then
        Option.bind (fX5_yAt a_7 (v2 + (1 : Int32)) Z M) fun r_19 =>
        Option.bind (fX5_yAt a_7 v2 Z M) fun r_21 =>
        some ((r_19 - r_21), Z, M)
      else
      some ((-1000000 : Int32), Z, M)
theorem moX6_at_b5 (h : Nat) (v2 : Int32) (v3 : Int32) (s0 : Option Nat) (Z : q_Z) (M : q_C) (r : Int32) (Z' : q_Z) (M' : q_C) (hf : fX6_at_b5 h v2 v3 s0 Z M = some (r, Z', M')) : q_le Z Z' := by
  unfold fX6_at_b5 at hf
  rcases q_onC hf with hf | ⟨a_7, hf⟩
  · exact moX6_at_b21 _ _ _ _ _ _ hf
  · obtain ⟨-, hf⟩ := q_gdE hf
    obtain ⟨r_9, hw_10, hf⟩ := q_biE hf
    rcases q_ifC hf with hf | hf
    · exact moX6_at_b21 _ _ _ _ _ _ hf
    · rcases q_ifC hf with hf | hf
      · obtain ⟨r_11, hw_12, hf⟩ := q_biE hf
        cases hf
        exact q_le.rf
      rcases q_ifC hf with hf | hf
      · obtain ⟨r_13, hw_14, hf⟩ := q_biE hf
        cases hf
        exact q_le.rf
      rcases q_ifC hf with hf | hf
      · obtain ⟨r_15, hw_16, hf⟩ := q_biE hf
        obtain ⟨r_17, hw_18, hf⟩ := q_biE hf
        cases hf
        exact q_le.rf
      rcases q_ifC hf with hf | hf
      · obtain ⟨r_19, hw_20, hf⟩ := q_biE hf
        obtain ⟨r_21, hw_22, hf⟩ := q_biE hf
        cases hf
        exact q_le.rf
      cases hf
      exact q_le.rf
set_option maxHeartbeats 4000000 in
set_option maxRecDepth 100000 in
theorem bX6_at_5 (E : q_E p s m meth c cX6_at 5 RX6 (some .int) "at" D cA) (hR : 6 ≤ R.frames ∧ 149 ≤ R.locals) (Zi : q_Z) {Z : q_Z} (hi : q_le Zi Z) {r : Int32} {Z' : q_Z} {M' : q_C} (hbd : zS Z' - zS Zi ≤ R.cells ∧ zC Z' - zC Zi ≤ R.slots)  (h : Nat) (v2 : Int32) (v3 : Int32) (s0 : Option Nat) (M : q_C) (H : Heap) (locs : List Loc) (ls : Array Slot) (hf : fX6_at_b5 h v2 v3 s0 Z M = some (r, Z', M')) (hH : q_Hh D cA z0 s Z M H locs) (hl : lv_has ls 5 [(2, .int v2), (3, .int v3)])  : W p l e R s m args below meth c H locs (zS Z - zS Zi) (zC Z - zC Zi) (MQ below (q_Q D cA z0 (some (.int r)) Z' M') args s (zS Z' - zS Zi) (zC Z' - zC Zi) (fun q => z0 ≤ q)) (F0 m 5 ls [va_rf s0]) := by
  have hx := E.1
  have hb := E.2.1
  have hown := E.2.2.2.1
  have hT := E.2.2.2.2.2.2.2.1
  have hcc := q_bd hi (moX6_at_b5 _ _ _ _ _ _ _ _ _ hf) hbd
  unfold fX6_at_b5 at hf
  refine q_astore (lv' := [(4, va_rf s0), (2, .int v2), (3, .int v3)]) hx hb dX6_at_5 hl (by decide) rfl (fun ls hl => ?_)
  refine q_aload hx hb dX6_at_7 (lv_at hl 0 rfl) ?_
  refine q_ifnull (tgt := 21) hx hb dX6_at_9 (by decide) hf (fun cc_6 hf => ?_) (fun a_7 cc_6 hf => ?_)
  · subst cc_6
    exact bX6_at_21 E hR Zi hi hbd h M _ _ _  hf hH (lv_sub hl [] rfl)
  · subst cc_6
    refine lv_aload hx hb dX6_at_12 (lv_at hl 0 rfl) ?_
    refine lv_iload_n hx hb dX6_at_14 rfl (lv_at hl 1 rfl) ?_
    obtain ⟨hk_8, hf⟩ := q_gdE hf
    have hk_8 := q_keq hk_8
    obtain ⟨r_9, hw_10, hf⟩ := q_biE hf
    refine q_cV (As := [.int v2]) (rest := []) (st1 := [.int r_9]) E hH (tX5_isThere l D cA z0 a_7 v2 Z M r_9 hw_10) mw_X5_isThere mi_X5_isThere (ci := 5) rfl ms_X5_isThere kM_X6_170 hk_8 hcc rfl rfl rfl hl.1 rfl rfl (Nat.le_of_ble_eq_true rfl) ⟨Nat.le_trans (by decide) hR.1, Nat.le_trans (by decide) hR.2⟩ dX6_at_15 (fun H locs hH => ?_)
    refine lv_if_ne (tgt := 24) hx hb dX6_at_18 (by decide) (fun cc_27 => ?_) (fun cc_27 => ?_)
    · replace hf := q_ifF cc_27 hf
      clear cc_27
      refine lv_iload_n hx hb dX6_at_24 rfl (lv_at hl 2 rfl) ?_
      by_cases cs_23 : v3 = 0
      · replace hf := q_ifT cs_23 hf
        refine q_tin (tgt := 56) 0 hx hb dX6_at_25 cs_23 (by decide) (by decide) rfl (by decide) ?_
        refine lv_aload hx hb dX6_at_56 (lv_at hl 0 rfl) ?_
        refine lv_iload_n hx hb dX6_at_58 rfl (lv_at hl 1 rfl) ?_
        obtain ⟨r_11, hw_12, hf⟩ := q_biE hf
        refine q_cV (As := [.int v2]) (rest := []) (st1 := [.int r_11]) E hH (tX5_xAt l D cA z0 a_7 v2 Z M r_11 hw_12) mw_X5_xAt mi_X5_xAt (ci := 5) rfl ms_X5_xAt kM_X6_173 hk_8 hcc rfl rfl rfl hl.1 rfl rfl (Nat.le_of_ble_eq_true rfl) ⟨Nat.le_trans (by decide) hR.1, Nat.le_trans (by decide) hR.2⟩ dX6_at_59 (fun H locs hH => ?_)
        cases hf
        exact q_iret E hH dX6_at_62
      replace hf := q_ifF cs_23 hf
      by_cases cs_24 : v3 = 1
      · replace hf := q_ifT cs_24 hf
        refine q_tin (tgt := 63) 1 hx hb dX6_at_25 cs_24 (by decide) (by decide) rfl (by decide) ?_
        refine lv_aload hx hb dX6_at_63 (lv_at hl 0 rfl) ?_
        refine lv_iload_n hx hb dX6_at_65 rfl (lv_at hl 1 rfl) ?_
        obtain ⟨r_13, hw_14, hf⟩ := q_biE hf
        refine q_cV (As := [.int v2]) (rest := []) (st1 := [.int r_13]) E hH (tX5_yAt l D cA z0 a_7 v2 Z M r_13 hw_14) mw_X5_yAt mi_X5_yAt (ci := 5) rfl ms_X5_yAt kM_X6_177 hk_8 hcc rfl rfl rfl hl.1 rfl rfl (Nat.le_of_ble_eq_true rfl) ⟨Nat.le_trans (by decide) hR.1, Nat.le_trans (by decide) hR.2⟩ dX6_at_66 (fun H locs hH => ?_)
        cases hf
        exact q_iret E hH dX6_at_69
      replace hf := q_ifF cs_24 hf
      by_cases cs_25 : v3 = 2
      · replace hf := q_ifT cs_25 hf
        refine q_tin (tgt := 70) 2 hx hb dX6_at_25 cs_25 (by decide) (by decide) rfl (by decide) ?_
        refine lv_aload hx hb dX6_at_70 (lv_at hl 0 rfl) ?_
        refine lv_iload_n hx hb dX6_at_72 rfl (lv_at hl 1 rfl) ?_
        refine lv_iconst (v := 1) hx hb dX6_at_73 (by decide) ?_
        refine lv_iadd hx hb dX6_at_74 ?_
        obtain ⟨r_15, hw_16, hf⟩ := q_biE hf
        refine q_cV (As := [.int (v2 + (1 : Int32))]) (rest := []) (st1 := [.int r_15]) E hH (tX5_xAt l D cA z0 a_7 (v2 + (1 : Int32)) Z M r_15 hw_16) mw_X5_xAt mi_X5_xAt (ci := 5) rfl ms_X5_xAt kM_X6_173 hk_8 hcc rfl rfl rfl hl.1 rfl rfl (Nat.le_of_ble_eq_true rfl) ⟨Nat.le_trans (by decide) hR.1, Nat.le_trans (by decide) hR.2⟩ dX6_at_75 (fun H locs hH => ?_)
        refine lv_aload hx hb dX6_at_78 (lv_at hl 0 rfl) ?_
        refine lv_iload_n hx hb dX6_at_80 rfl (lv_at hl 1 rfl) ?_
        obtain ⟨r_17, hw_18, hf⟩ := q_biE hf
        refine q_cV (As := [.int v2]) (rest := [.int r_15]) (st1 := [.int r_17, .int r_15]) E hH (tX5_xAt l D cA z0 a_7 v2 Z M r_17 hw_18) mw_X5_xAt mi_X5_xAt (ci := 5) rfl ms_X5_xAt kM_X6_173 hk_8 hcc rfl rfl rfl hl.1 rfl rfl (Nat.le_of_ble_eq_true rfl) ⟨Nat.le_trans (by decide) hR.1, Nat.le_trans (by decide) hR.2⟩ dX6_at_81 (fun H locs hH => ?_)
        refine lv_isub hx hb dX6_at_84 ?_
        cases hf
        exact q_iret E hH dX6_at_85
      replace hf := q_ifF cs_25 hf
      by_cases cs_26 : v3 = 3
      · replace hf := q_ifT cs_26 hf
        refine q_tin (tgt := 86) 3 hx hb dX6_at_25 cs_26 (by decide) (by decide) rfl (by decide) ?_
        refine lv_aload hx hb dX6_at_86 (lv_at hl 0 rfl) ?_
        refine lv_iload_n hx hb dX6_at_88 rfl (lv_at hl 1 rfl) ?_
        refine lv_iconst (v := 1) hx hb dX6_at_89 (by decide) ?_
        refine lv_iadd hx hb dX6_at_90 ?_
        obtain ⟨r_19, hw_20, hf⟩ := q_biE hf
        refine q_cV (As := [.int (v2 + (1 : Int32))]) (rest := []) (st1 := [.int r_19]) E hH (tX5_yAt l D cA z0 a_7 (v2 + (1 : Int32)) Z M r_19 hw_20) mw_X5_yAt mi_X5_yAt (ci := 5) rfl ms_X5_yAt kM_X6_177 hk_8 hcc rfl rfl rfl hl.1 rfl rfl (Nat.le_of_ble_eq_true rfl) ⟨Nat.le_trans (by decide) hR.1, Nat.le_trans (by decide) hR.2⟩ dX6_at_91 (fun H locs hH => ?_)
        refine lv_aload hx hb dX6_at_94 (lv_at hl 0 rfl) ?_
        refine lv_iload_n hx hb dX6_at_96 rfl (lv_at hl 1 rfl) ?_
        obtain ⟨r_21, hw_22, hf⟩ := q_biE hf
        refine q_cV (As := [.int v2]) (rest := [.int r_19]) (st1 := [.int r_21, .int r_19]) E hH (tX5_yAt l D cA z0 a_7 v2 Z M r_21 hw_22) mw_X5_yAt mi_X5_yAt (ci := 5) rfl ms_X5_yAt kM_X6_177 hk_8 hcc rfl rfl rfl hl.1 rfl rfl (Nat.le_of_ble_eq_true rfl) ⟨Nat.le_trans (by decide) hR.1, Nat.le_trans (by decide) hR.2⟩ dX6_at_97 (fun H locs hH => ?_)
        refine lv_isub hx hb dX6_at_100 ?_
        cases hf
        exact q_iret E hH dX6_at_101
      replace hf := q_ifF cs_26 hf
      refine q_tout (tgt := 102) 4 hx hb dX6_at_25 rfl (fun k hk => match k, hk with | 0, _ => cs_23 | 1, _ => cs_24 | 2, _ => cs_25 | 3, _ => cs_26 | k + 4, hk => absurd hk (by omega)) (by decide) ?_
      refine lv_ldc hx hb hown (hT.1 _ _ kK_X6_147) dX6_at_102 ?_
      cases hf
      exact q_iret E hH dX6_at_104
    · replace hf := q_ifT cc_27 hf
      clear cc_27
      exact bX6_at_21 E hR Zi hi hbd h M _ _ _  hf hH (lv_sub hl [] rfl)
def fX6_at (h : Nat) (v1 : Int32) (v2 : Int32) (v3 : Int32) (Z : q_Z) (M : q_C) : Option (Int32 × q_Z × q_C) :=
  q_gd (zK Z h == 16) <|
  q_b3 (fX6_tracedWay h v1 Z M) fun r_2 Z_5 M_4 =>
  fX6_at_b5 h v2 v3 r_2 Z_5 M_4
theorem moX6_at (h : Nat) (v1 : Int32) (v2 : Int32) (v3 : Int32) (Z : q_Z) (M : q_C) (r : Int32) (Z' : q_Z) (M' : q_C) (hf : fX6_at h v1 v2 v3 Z M = some (r, Z', M')) : q_le Z Z' := by
  unfold fX6_at at hf
  obtain ⟨-, hf⟩ := q_gdE hf
  obtain ⟨r_2, Z_5, M_4, hw_3, hf⟩ := q_b3E hf
  have hq := moX6_tracedWay _ _ _ _ _ _ _ hw_3
  exact hq.tr (moX6_at_b5 _ _ _ _ _ _ _ _ _ hf)
set_option maxHeartbeats 4000000 in
set_option maxRecDepth 100000 in
theorem bX6_at_0 (E : q_E p s m meth c cX6_at 5 RX6 (some .int) "at" D cA) (hR : 6 ≤ R.frames ∧ 149 ≤ R.locals) (Zi : q_Z) {Z : q_Z} (hi : q_le Zi Z) {r : Int32} {Z' : q_Z} {M' : q_C} (hbd : zS Z' - zS Zi ≤ R.cells ∧ zC Z' - zC Zi ≤ R.slots)  (h : Nat) (v1 : Int32) (v2 : Int32) (v3 : Int32) (M : q_C) (H : Heap) (locs : List Loc) (ls : Array Slot) (hf : fX6_at h v1 v2 v3 Z M = some (r, Z', M')) (hH : q_Hh D cA z0 s Z M H locs) (hl : lv_has ls 5 [(0, .ref h), (1, .int v1), (2, .int v2), (3, .int v3)])  : W p l e R s m args below meth c H locs (zS Z - zS Zi) (zC Z - zC Zi) (MQ below (q_Q D cA z0 (some (.int r)) Z' M') args s (zS Z' - zS Zi) (zC Z' - zC Zi) (fun q => z0 ≤ q)) (F0 m 0 ls []) := by
  have hx := E.1
  have hb := E.2.1
  have hown := E.2.2.2.1
  have hT := E.2.2.2.2.2.2.2.1
  have hcc := q_bd hi (moX6_at _ _ _ _ _ _ _ _ _ hf) hbd
  unfold fX6_at at hf
  refine lv_aload_n hx hb dX6_at_0 rfl (lv_at hl 0 rfl) ?_
  refine lv_iload_n hx hb dX6_at_1 rfl (lv_at hl 1 rfl) ?_
  obtain ⟨hk_1, hf⟩ := q_gdE hf
  have hk_1 := q_keq hk_1
  obtain ⟨r_2, Z_5, M_4, hw_3, hf⟩ := q_b3E hf
  have hq1 := (moX6_tracedWay _ _ _ _ _ _ _ hw_3)
  have hq := moX6_at_b5 _ _ _ _ _ _ _ _ _ hf
  refine q_cV (As := [.int v1]) (rest := []) (st1 := [va_rf r_2]) E hH (tX6_tracedWay l D cA z0 h v1 Z M r_2 Z_5 M_4 hw_3) mw_X6_tracedWay mi_X6_tracedWay (ci := 6) rfl ms_X6_tracedWay kM_X6_167 hk_1 (q_bs hi hq1 hq hbd) (q_be1 hi hq1) (q_be2 hi hq1) rfl hl.1 rfl rfl (Nat.le_of_ble_eq_true rfl) ⟨Nat.le_trans (by decide) hR.1, Nat.le_trans (by decide) hR.2⟩ dX6_at_2 (fun H locs hH => ?_)
  exact bX6_at_5 E hR Zi (hi.tr hq1) hbd h v2 v3 r_2 M_4 _ _ _  hf hH (lv_sub hl [2, 3] rfl)
set_option maxRecDepth 100000 in
theorem tX6_at (l : Launch) (D : va_G) (cA : Nat → ClassId) (z0 : Nat) (h : Nat) (v1 : Int32) (v2 : Int32) (v3 : Int32) (Z : q_Z) (M : q_C) (r : Int32) (Z' : q_Z) (M' : q_C) (hf : fX6_at h v1 v2 v3 Z M = some (r, Z', M')) : q_Ct l D cA z0 yX6_at cX6_at 5 (some .int) 6 149 [.ref h, .int v1, .int v2, .int v3] Z M (some (.int r)) Z' M' (zS Z' - zS Z) (zC Z' - zC Z) := by
  (refine q_start (plainFor_of_name (by decide)) (Nat.le_of_ble_eq_true rfl) (fun p e s m below meth c H ls E hH hl => ?_)
   refine q_wc (c1 := zS Z - zS Z) (s1 := zC Z - zC Z) (Nat.sub_self _).symm (Nat.sub_self _).symm ?_
   exact bX6_at_0 E ⟨Nat.le_refl _, Nat.le_refl _⟩ Z q_le.rf ⟨Nat.le_refl _, Nat.le_refl _⟩ h _ _ _ M H [] ls hf hH hl)
def fX6_fits_b22 (h : Nat) (Z : q_Z) (M : q_C) : Option (Int32 × q_Z × q_C) :=
  some ((-1 : Int32), Z, M)
theorem moX6_fits_b22 (h : Nat) (Z : q_Z) (M : q_C) (r : Int32) (Z' : q_Z) (M' : q_C) (hf : fX6_fits_b22 h Z M = some (r, Z', M')) : q_le Z Z' := by
  unfold fX6_fits_b22 at hf
  cases hf
  exact q_le.rf
set_option maxHeartbeats 4000000 in
set_option maxRecDepth 100000 in
theorem bX6_fits_22 (E : q_E p s m meth c cX6_fits 5 RX6 (some .int) "fits" D cA) (hR : 6 ≤ R.frames ∧ 149 ≤ R.locals) (Zi : q_Z) {Z : q_Z} (hi : q_le Zi Z) {r : Int32} {Z' : q_Z} {M' : q_C} (hbd : zS Z' - zS Zi ≤ R.cells ∧ zC Z' - zC Zi ≤ R.slots)  (h : Nat) (M : q_C) (H : Heap) (locs : List Loc) (ls : Array Slot) (hf : fX6_fits_b22 h Z M = some (r, Z', M')) (hH : q_Hh D cA z0 s Z M H locs) (hl : lv_has ls 5 [])  : W p l e R s m args below meth c H locs (zS Z - zS Zi) (zC Z - zC Zi) (MQ below (q_Q D cA z0 (some (.int r)) Z' M') args s (zS Z' - zS Zi) (zC Z' - zC Zi) (fun q => z0 ≤ q)) (F0 m 22 ls []) := by
  have hx := E.1
  have hb := E.2.1
  have hown := E.2.2.2.1
  have hT := E.2.2.2.2.2.2.2.1
  have hcc := q_bd hi (moX6_fits_b22 _ _ _ _ _ _ hf) hbd
  unfold fX6_fits_b22 at hf
  refine lv_iconst (v := -1) hx hb dX6_fits_22 (by decide) ?_
  cases hf
  exact q_iret E hH dX6_fits_23
def fX6_fits_b39 (h : Nat) (s0 : Int32) (Z : q_Z) (M : q_C) : Option (Int32 × q_Z × q_C) :=
  some (s0, Z, M)
theorem moX6_fits_b39 (h : Nat) (s0 : Int32) (Z : q_Z) (M : q_C) (r : Int32) (Z' : q_Z) (M' : q_C) (hf : fX6_fits_b39 h s0 Z M = some (r, Z', M')) : q_le Z Z' := by
  unfold fX6_fits_b39 at hf
  cases hf
  exact q_le.rf
set_option maxHeartbeats 4000000 in
set_option maxRecDepth 100000 in
theorem bX6_fits_39 (E : q_E p s m meth c cX6_fits 5 RX6 (some .int) "fits" D cA) (hR : 6 ≤ R.frames ∧ 149 ≤ R.locals) (Zi : q_Z) {Z : q_Z} (hi : q_le Zi Z) {r : Int32} {Z' : q_Z} {M' : q_C} (hbd : zS Z' - zS Zi ≤ R.cells ∧ zC Z' - zC Zi ≤ R.slots)  (h : Nat) (s0 : Int32) (M : q_C) (H : Heap) (locs : List Loc) (ls : Array Slot) (hf : fX6_fits_b39 h s0 Z M = some (r, Z', M')) (hH : q_Hh D cA z0 s Z M H locs) (hl : lv_has ls 5 [])  : W p l e R s m args below meth c H locs (zS Z - zS Zi) (zC Z - zC Zi) (MQ below (q_Q D cA z0 (some (.int r)) Z' M') args s (zS Z' - zS Zi) (zC Z' - zC Zi) (fun q => z0 ≤ q)) (F0 m 39 ls [.int s0]) := by
  have hx := E.1
  have hb := E.2.1
  have hown := E.2.2.2.1
  have hT := E.2.2.2.2.2.2.2.1
  have hcc := q_bd hi (moX6_fits_b39 _ _ _ _ _ _ _ hf) hbd
  unfold fX6_fits_b39 at hf
  cases hf
  exact q_iret E hH dX6_fits_39
def fX6_fits_b5 (h : Nat) (v2 : Int32) (s0 : Option Nat) (Z : q_Z) (M : q_C) : Option (Int32 × q_Z × q_C) :=
  q_gd (zK Z h == 16) <|
  Option.bind (fX6_sightOf h v2 Z M) fun r_7 =>
  q_on s0 (
    fX6_fits_b22 h Z M
  ) fun a_10 =>
    q_on r_7 (
      fX6_fits_b22 h Z M
    ) fun a_12 =>
      Option.bind (fX6_isFitting h (some a_10) (some a_12) Z M) fun r_13 =>
      if r_13 = 0 then
        fX6_fits_b39 h (0 : Int32) Z M
      else
        fX6_fits_b39 h (1 : Int32) Z M
theorem moX6_fits_b5 (h : Nat) (v2 : Int32) (s0 : Option Nat) (Z : q_Z) (M : q_C) (r : Int32) (Z' : q_Z) (M' : q_C) (hf : fX6_fits_b5 h v2 s0 Z M = some (r, Z', M')) : q_le Z Z' := by
  unfold fX6_fits_b5 at hf
  obtain ⟨-, hf⟩ := q_gdE hf
  obtain ⟨r_7, hw_8, hf⟩ := q_biE hf
  rcases q_onC hf with hf | ⟨a_10, hf⟩
  · exact moX6_fits_b22 _ _ _ _ _ _ hf
  · rcases q_onC hf with hf | ⟨a_12, hf⟩
    · exact moX6_fits_b22 _ _ _ _ _ _ hf
    · obtain ⟨r_13, hw_14, hf⟩ := q_biE hf
      rcases q_ifC hf with hf | hf
      · exact moX6_fits_b39 _ _ _ _ _ _ _ hf
      · exact moX6_fits_b39 _ _ _ _ _ _ _ hf
set_option maxHeartbeats 4000000 in
set_option maxRecDepth 100000 in
theorem bX6_fits_5 (E : q_E p s m meth c cX6_fits 5 RX6 (some .int) "fits" D cA) (hR : 6 ≤ R.frames ∧ 149 ≤ R.locals) (Zi : q_Z) {Z : q_Z} (hi : q_le Zi Z) {r : Int32} {Z' : q_Z} {M' : q_C} (hbd : zS Z' - zS Zi ≤ R.cells ∧ zC Z' - zC Zi ≤ R.slots)  (h : Nat) (v2 : Int32) (s0 : Option Nat) (M : q_C) (H : Heap) (locs : List Loc) (ls : Array Slot) (hf : fX6_fits_b5 h v2 s0 Z M = some (r, Z', M')) (hH : q_Hh D cA z0 s Z M H locs) (hl : lv_has ls 5 [(0, .ref h), (2, .int v2)])  : W p l e R s m args below meth c H locs (zS Z - zS Zi) (zC Z - zC Zi) (MQ below (q_Q D cA z0 (some (.int r)) Z' M') args s (zS Z' - zS Zi) (zC Z' - zC Zi) (fun q => z0 ≤ q)) (F0 m 5 ls [va_rf s0]) := by
  have hx := E.1
  have hb := E.2.1
  have hown := E.2.2.2.1
  have hT := E.2.2.2.2.2.2.2.1
  have hcc := q_bd hi (moX6_fits_b5 _ _ _ _ _ _ _ _ hf) hbd
  unfold fX6_fits_b5 at hf
  refine q_astore_n (lv' := [(3, va_rf s0), (0, .ref h), (2, .int v2)]) hx hb dX6_fits_5 rfl hl (by decide) rfl (fun ls hl => ?_)
  refine lv_aload_n hx hb dX6_fits_6 rfl (lv_at hl 1 rfl) ?_
  refine lv_iload_n hx hb dX6_fits_7 rfl (lv_at hl 2 rfl) ?_
  obtain ⟨hk_6, hf⟩ := q_gdE hf
  have hk_6 := q_keq hk_6
  obtain ⟨r_7, hw_8, hf⟩ := q_biE hf
  refine q_cV (As := [.int v2]) (rest := []) (st1 := [va_rf r_7]) E hH (tX6_sightOf l D cA z0 h v2 Z M r_7 hw_8) mw_X6_sightOf mi_X6_sightOf (ci := 6) rfl ms_X6_sightOf kM_X6_124 hk_6 hcc rfl rfl rfl hl.1 rfl rfl (Nat.le_of_ble_eq_true rfl) ⟨Nat.le_trans (by decide) hR.1, Nat.le_trans (by decide) hR.2⟩ dX6_fits_8 (fun H locs hH => ?_)
  refine q_astore (lv' := [(4, va_rf r_7), (3, va_rf s0), (0, .ref h), (2, .int v2)]) hx hb dX6_fits_11 hl (by decide) (by simp [q_rfc] <;> rfl) (fun ls hl => ?_)
  refine q_aload_n hx hb dX6_fits_13 rfl (lv_at hl 1 rfl) ?_
  refine q_ifnull (tgt := 22) hx hb dX6_fits_14 (by decide) hf (fun cc_9 hf => ?_) (fun a_10 cc_9 hf => ?_)
  · subst cc_9
    exact bX6_fits_22 E hR Zi hi hbd h M _ _ _  hf hH (lv_sub hl [] rfl)
  · subst cc_9
    refine q_aload hx hb dX6_fits_17 (lv_at hl 0 rfl) ?_
    refine q_ifnonnull (tgt := 24) hx hb dX6_fits_19 (by decide) hf (fun cc_11 hf => ?_) (fun a_12 cc_11 hf => ?_)
    · subst cc_11
      exact bX6_fits_22 E hR Zi hi hbd h M _ _ _  hf hH (lv_sub hl [] rfl)
    · subst cc_11
      refine lv_aload_n hx hb dX6_fits_24 rfl (lv_at hl 2 rfl) ?_
      refine lv_aload_n hx hb dX6_fits_25 rfl (lv_at hl 1 rfl) ?_
      refine lv_aload hx hb dX6_fits_26 (lv_at hl 0 rfl) ?_
      obtain ⟨r_13, hw_14, hf⟩ := q_biE hf
      refine q_cV (As := [.ref a_10, .ref a_12]) (rest := []) (st1 := [.int r_13]) E hH (tX6_isFitting l D cA z0 h (some a_10) (some a_12) Z M r_13 hw_14) mw_X6_isFitting mi_X6_isFitting (ci := 6) rfl ms_X6_isFitting kM_X6_180 hk_6 hcc rfl rfl rfl hl.1 rfl rfl (Nat.le_of_ble_eq_true rfl) ⟨Nat.le_trans (by decide) hR.1, Nat.le_trans (by decide) hR.2⟩ dX6_fits_28 (fun H locs hH => ?_)
      refine lv_if_eq (tgt := 38) hx hb dX6_fits_31 (by decide) (fun cc_15 => ?_) (fun cc_15 => ?_)
      · replace hf := q_ifT cc_15 hf
        clear cc_15
        refine lv_iconst (v := 0) hx hb dX6_fits_38 (by decide) ?_
        exact bX6_fits_39 E hR Zi hi hbd h (0 : Int32) M _ _ _  hf hH (lv_sub hl [] rfl)
      · replace hf := q_ifF cc_15 hf
        clear cc_15
        refine lv_iconst (v := 1) hx hb dX6_fits_34 (by decide) ?_
        refine lv_goto (tgt := 39) hx hb dX6_fits_35 (by decide) ?_
        exact bX6_fits_39 E hR Zi hi hbd h (1 : Int32) M _ _ _  hf hH (lv_sub hl [] rfl)
def fX6_fits (h : Nat) (v1 : Int32) (v2 : Int32) (Z : q_Z) (M : q_C) : Option (Int32 × q_Z × q_C) :=
  q_gd (zK Z h == 16) <|
  q_b3 (fX6_tracedWay h v1 Z M) fun r_2 Z_5 M_4 =>
  fX6_fits_b5 h v2 r_2 Z_5 M_4
theorem moX6_fits (h : Nat) (v1 : Int32) (v2 : Int32) (Z : q_Z) (M : q_C) (r : Int32) (Z' : q_Z) (M' : q_C) (hf : fX6_fits h v1 v2 Z M = some (r, Z', M')) : q_le Z Z' := by
  unfold fX6_fits at hf
  obtain ⟨-, hf⟩ := q_gdE hf
  obtain ⟨r_2, Z_5, M_4, hw_3, hf⟩ := q_b3E hf
  have hq := moX6_tracedWay _ _ _ _ _ _ _ hw_3
  exact hq.tr (moX6_fits_b5 _ _ _ _ _ _ _ _ hf)
set_option maxHeartbeats 4000000 in
set_option maxRecDepth 100000 in
theorem bX6_fits_0 (E : q_E p s m meth c cX6_fits 5 RX6 (some .int) "fits" D cA) (hR : 6 ≤ R.frames ∧ 149 ≤ R.locals) (Zi : q_Z) {Z : q_Z} (hi : q_le Zi Z) {r : Int32} {Z' : q_Z} {M' : q_C} (hbd : zS Z' - zS Zi ≤ R.cells ∧ zC Z' - zC Zi ≤ R.slots)  (h : Nat) (v1 : Int32) (v2 : Int32) (M : q_C) (H : Heap) (locs : List Loc) (ls : Array Slot) (hf : fX6_fits h v1 v2 Z M = some (r, Z', M')) (hH : q_Hh D cA z0 s Z M H locs) (hl : lv_has ls 5 [(0, .ref h), (1, .int v1), (2, .int v2)])  : W p l e R s m args below meth c H locs (zS Z - zS Zi) (zC Z - zC Zi) (MQ below (q_Q D cA z0 (some (.int r)) Z' M') args s (zS Z' - zS Zi) (zC Z' - zC Zi) (fun q => z0 ≤ q)) (F0 m 0 ls []) := by
  have hx := E.1
  have hb := E.2.1
  have hown := E.2.2.2.1
  have hT := E.2.2.2.2.2.2.2.1
  have hcc := q_bd hi (moX6_fits _ _ _ _ _ _ _ _ hf) hbd
  unfold fX6_fits at hf
  refine lv_aload_n hx hb dX6_fits_0 rfl (lv_at hl 0 rfl) ?_
  refine lv_iload_n hx hb dX6_fits_1 rfl (lv_at hl 1 rfl) ?_
  obtain ⟨hk_1, hf⟩ := q_gdE hf
  have hk_1 := q_keq hk_1
  obtain ⟨r_2, Z_5, M_4, hw_3, hf⟩ := q_b3E hf
  have hq1 := (moX6_tracedWay _ _ _ _ _ _ _ hw_3)
  have hq := moX6_fits_b5 _ _ _ _ _ _ _ _ hf
  refine q_cV (As := [.int v1]) (rest := []) (st1 := [va_rf r_2]) E hH (tX6_tracedWay l D cA z0 h v1 Z M r_2 Z_5 M_4 hw_3) mw_X6_tracedWay mi_X6_tracedWay (ci := 6) rfl ms_X6_tracedWay kM_X6_167 hk_1 (q_bs hi hq1 hq hbd) (q_be1 hi hq1) (q_be2 hi hq1) rfl hl.1 rfl rfl (Nat.le_of_ble_eq_true rfl) ⟨Nat.le_trans (by decide) hR.1, Nat.le_trans (by decide) hR.2⟩ dX6_fits_2 (fun H locs hH => ?_)
  exact bX6_fits_5 E hR Zi (hi.tr hq1) hbd h v2 r_2 M_4 _ _ _  hf hH (lv_sub hl [0, 2] rfl)
set_option maxRecDepth 100000 in
theorem tX6_fits (l : Launch) (D : va_G) (cA : Nat → ClassId) (z0 : Nat) (h : Nat) (v1 : Int32) (v2 : Int32) (Z : q_Z) (M : q_C) (r : Int32) (Z' : q_Z) (M' : q_C) (hf : fX6_fits h v1 v2 Z M = some (r, Z', M')) : q_Ct l D cA z0 yX6_fits cX6_fits 5 (some .int) 6 149 [.ref h, .int v1, .int v2] Z M (some (.int r)) Z' M' (zS Z' - zS Z) (zC Z' - zC Z) := by
  (refine q_start (plainFor_of_name (by decide)) (Nat.le_of_ble_eq_true rfl) (fun p e s m below meth c H ls E hH hl => ?_)
   refine q_wc (c1 := zS Z - zS Z) (s1 := zC Z - zC Z) (Nat.sub_self _).symm (Nat.sub_self _).symm ?_
   exact bX6_fits_0 E ⟨Nat.le_refl _, Nat.le_refl _⟩ Z q_le.rf ⟨Nat.le_refl _, Nat.le_refl _⟩ h _ _ M H [] ls hf hH hl)
def fX6_traceAll_b32 (h : Nat) (v1 : Int32) (Z : q_Z) (M : q_C) : Option ((Int32 × q_Z × q_C) ⊕ (q_Z × q_C)) :=
  q_nm (v1 + (1 : Int32)) fun v1_6 =>
  some (Sum.inl (v1_6, Z, M))
theorem moX6_traceAll_b32 (h : Nat) (v1 : Int32) (Z : q_Z) (M : q_C) (o : (Int32 × q_Z × q_C) ⊕ (q_Z × q_C)) (hf : fX6_traceAll_b32 h v1 Z M = some o) : q_le Z (q_sm o (fun x => x.2.1) (fun x => x.1)) := by
  unfold fX6_traceAll_b32 at hf
  replace hf := q_nmE (x := _) rfl hf
  cases hf
  exact q_le.rf
set_option maxHeartbeats 4000000 in
set_option maxRecDepth 100000 in
theorem bX6_traceAll_32 {Q : State → Prop} (E : q_E p s m meth c cX6_traceAll 3 RX6 none "traceAll" D cA) (hR : 5 ≤ R.frames ∧ 127 ≤ R.locals) (Zi : q_Z) {Z : q_Z} (hi : q_le Zi Z) {o : (Int32 × q_Z × q_C) ⊕ (q_Z × q_C)} (hbd : zS (q_sm o (fun x => x.2.1) (fun x => x.1)) - zS Zi ≤ R.cells ∧ zC (q_sm o (fun x => x.2.1) (fun x => x.1)) - zC Zi ≤ R.slots)  (h : Nat) (v1 : Int32) (M : q_C) (H : Heap) (locs : List Loc) (ls : Array Slot) (hf : fX6_traceAll_b32 h v1 Z M = some o) (hH : q_Hh D cA z0 s Z M H locs) (hl : lv_has ls 3 [(0, .ref h), (1, .int v1)]) (kb : ∀ (w1 : Int32) (Z1 : q_Z) (M1 : q_C) (H : Heap) (locs : List Loc) (ls : Array Slot), Sum.inl (w1, Z1, M1) = o → q_Hh D cA z0 s Z1 M1 H locs → lv_has ls 3 [(0, .ref h), (1, .int w1)] → q_le Zi Z1 → W p l e R s m args below meth c H locs (zS Z1 - zS Zi) (zC Z1 - zC Zi) Q (F0 m 2 ls [])) (kx0 : ∀ (Z1 : q_Z) (M1 : q_C) (H : Heap) (locs : List Loc) (ls : Array Slot), Sum.inr (Z1, M1) = o → q_Hh D cA z0 s Z1 M1 H locs → lv_has ls 3 [] → q_le Zi Z1 → W p l e R s m args below meth c H locs (zS Z1 - zS Zi) (zC Z1 - zC Zi) Q (F0 m 38 ls [])) : W p l e R s m args below meth c H locs (zS Z - zS Zi) (zC Z - zC Zi) Q (F0 m 32 ls []) := by
  have hx := E.1
  have hb := E.2.1
  have hown := E.2.2.2.1
  have hT := E.2.2.2.2.2.2.2.1
  have hcc := q_bd hi (moX6_traceAll_b32 _ _ _ _ _ hf) hbd
  unfold fX6_traceAll_b32 at hf
  obtain ⟨v1_6, hn_7⟩ : ∃ y : Int32, y = v1 + (1 : Int32) := ⟨_, rfl⟩
  replace hf := q_nmE hn_7 hf
  refine lv_iinc (v := v1_6) (lv' := [(1, .int v1_6), (0, .ref h)]) hx hb dX6_traceAll_32 hl (k := 1) rfl (by rw [hn_7]; rfl) (by decide) rfl (fun ls hl => ?_)
  clear hn_7
  refine lv_goto (tgt := 2) hx hb dX6_traceAll_35 (by decide) ?_
  cases hf
  exact kb v1_6 Z M _ _ _ rfl hH (lv_sub hl [1, 0] rfl) hi
def fX6_traceAll_L2 (h : Nat) (v1 : Int32) (Z : q_Z) (M : q_C) : Option ((Int32 × q_Z × q_C) ⊕ (q_Z × q_C)) :=
  q_gd (zK Z h == 16) <|
  if gI M h 10 ≤ v1 then
    some (Sum.inr (Z, M))
  else
    Option.bind (fX6_keptWay h v1 Z M) fun r_2 =>
    q_on r_2 (
      fX6_traceAll_b32 h v1 Z M
    ) fun a_5 =>
      Option.bind (gR M h 1) fun a_8 =>
      Option.bind (gR M h 12) fun a_10 =>
      q_gd (zK Z a_5 == 15) <|
      q_b2 (fX5_trace a_5 (some a_8) (some a_10) Z M) fun Z_15 M_14 =>
      fX6_traceAll_b32 h v1 Z_15 M_14
theorem moX6_traceAll_L2 (h : Nat) (v1 : Int32) (Z : q_Z) (M : q_C) (o : (Int32 × q_Z × q_C) ⊕ (q_Z × q_C)) (hf : fX6_traceAll_L2 h v1 Z M = some o) : q_le Z (q_sm o (fun x => x.2.1) (fun x => x.1)) := by
  unfold fX6_traceAll_L2 at hf
  obtain ⟨-, hf⟩ := q_gdE hf
  rcases q_ifC hf with hf | hf
  · cases hf
    exact q_le.rf
  · obtain ⟨r_2, hw_3, hf⟩ := q_biE hf
    rcases q_onC hf with hf | ⟨a_5, hf⟩
    · exact moX6_traceAll_b32 _ _ _ _ _ hf
    · obtain ⟨a_8, -, hf⟩ := q_biE hf
      obtain ⟨a_10, -, hf⟩ := q_biE hf
      obtain ⟨-, hf⟩ := q_gdE hf
      obtain ⟨Z_15, M_14, hw_13, hf⟩ := q_b2E hf
      have hq := moX5_trace _ _ _ _ _ _ _ hw_13
      exact hq.tr (moX6_traceAll_b32 _ _ _ _ _ hf)
theorem moX6_traceAll_l2 (h : Nat) (n : Nat) (x : Int32 × q_Z × q_C) (r : (q_Z × q_C)) (hf : q_it (fun x => fX6_traceAll_L2 h x.1 x.2.1 x.2.2) n x = some r) : q_le ((fun x => x.2.1) x) ((fun x => x.1) r) := by
  exact q_itmo _ (fun x => x.2.1) (fun x => x.1) (fun x o hx => moX6_traceAll_L2 _ _ _ _ o hx) n x r hf
set_option maxHeartbeats 4000000 in
set_option maxRecDepth 100000 in
theorem lX6_traceAll_2 {Q : State → Prop} (E : q_E p s m meth c cX6_traceAll 3 RX6 none "traceAll" D cA) (hR : 5 ≤ R.frames ∧ 127 ≤ R.locals) (Zi : q_Z)  (h : Nat) : ∀ (n : Nat) (v1 : Int32) (Z : q_Z) (M : q_C) (H : Heap) (locs : List Loc) (ls : Array Slot) (r : (q_Z × q_C)), q_it (fun x => fX6_traceAll_L2 h x.1 x.2.1 x.2.2) n (v1, Z, M) = some r → zS ((fun x => x.1) r) - zS Zi ≤ R.cells ∧ zC ((fun x => x.1) r) - zC Zi ≤ R.slots → q_Hh D cA z0 s Z M H locs → lv_has ls 3 [(0, .ref h), (1, .int v1)] → q_le Zi Z → (kx0 : ∀ (Z1 : q_Z) (M1 : q_C) (H : Heap) (locs : List Loc) (ls : Array Slot), (Z1, M1) = r → q_Hh D cA z0 s Z1 M1 H locs → lv_has ls 3 [] → q_le Zi Z1 → W p l e R s m args below meth c H locs (zS Z1 - zS Zi) (zC Z1 - zC Zi) Q (F0 m 38 ls [])) → W p l e R s m args below meth c H locs (zS Z - zS Zi) (zC Z - zC Zi) Q (F0 m 2 ls []) := by
  have hx := E.1
  have hb := E.2.1
  have hown := E.2.2.2.1
  have hT := E.2.2.2.2.2.2.2.1
  intro n
  induction n with
  | zero =>
    intro v1 Z M H locs ls r hf
    cases hf
  | succ n ih =>
    intro v1 Z M H locs ls r hf hbr hH hl hi ky0
    obtain ⟨n1, o, hn, hf, ho⟩ := q_itE hf
    cases hn
    have hf : fX6_traceAll_L2 h v1 Z M = some o := hf
    have hbd : zS (q_sm o (fun x => x.2.1) (fun x => x.1)) - zS Zi ≤ R.cells ∧ zC (q_sm o (fun x => x.2.1) (fun x => x.1)) - zC Zi ≤ R.slots := by
      cases o with
      | inl y => exact q_bd (hi.tr (moX6_traceAll_L2 _ _ _ _ _ hf)) (moX6_traceAll_l2 _ _ _ _ ho) hbr
      | inr y => cases ho; exact hbr
    have hcc := q_bd hi (moX6_traceAll_L2 _ _ _ _ _ hf) hbd
    have kb : ∀ (w1 : Int32) (Z1 : q_Z) (M1 : q_C) (H : Heap) (locs : List Loc) (ls : Array Slot), Sum.inl (w1, Z1, M1) = o → q_Hh D cA z0 s Z1 M1 H locs → lv_has ls 3 [(0, .ref h), (1, .int w1)] → q_le Zi Z1 → W p l e R s m args below meth c H locs (zS Z1 - zS Zi) (zC Z1 - zC Zi) Q (F0 m 2 ls []) := by
      intro w1 Z1 M1 H locs ls e hH hl hi
      subst e
      exact ih w1 Z1 M1 H locs ls r ho hbr hH hl hi ky0
    have kx0 : ∀ (Z1 : q_Z) (M1 : q_C) (H : Heap) (locs : List Loc) (ls : Array Slot), Sum.inr (Z1, M1) = o → q_Hh D cA z0 s Z1 M1 H locs → lv_has ls 3 [] → q_le Zi Z1 → W p l e R s m args below meth c H locs (zS Z1 - zS Zi) (zC Z1 - zC Zi) Q (F0 m 38 ls []) := by
      intro Z1 M1 H locs ls e hH hl hi
      subst e
      exact ky0 Z1 M1 H locs ls ho hH hl hi
    unfold fX6_traceAll_L2 at hf
    refine lv_iload_n hx hb dX6_traceAll_2 rfl (lv_at hl 1 rfl) ?_
    refine lv_aload_n hx hb dX6_traceAll_3 rfl (lv_at hl 0 rfl) ?_
    obtain ⟨hk_1, hf⟩ := q_gdE hf
    have hk_1 := q_keq hk_1
    refine q_getI E hH (ci := 6) rfl 10 (by decide) kF_X6_50 (fun _ _ _ => rfl) hk_1 dX6_traceAll_4 ?_
    refine lv_icmp_ge (tgt := 38) hx hb dX6_traceAll_7 (by decide) (fun cc_16 => ?_) (fun cc_16 => ?_)
    · replace hf := q_ifT cc_16 hf
      clear cc_16
      cases hf
      exact kx0 Z M _ _ _ rfl hH (lv_sub hl [] rfl) hi
    · replace hf := q_ifF cc_16 hf
      clear cc_16
      refine lv_aload_n hx hb dX6_traceAll_10 rfl (lv_at hl 0 rfl) ?_
      refine lv_iload_n hx hb dX6_traceAll_11 rfl (lv_at hl 1 rfl) ?_
      obtain ⟨r_2, hw_3, hf⟩ := q_biE hf
      refine q_cV (As := [.int v1]) (rest := []) (st1 := [va_rf r_2]) E hH (tX6_keptWay l D cA z0 h v1 Z M r_2 hw_3) mw_X6_keptWay mi_X6_keptWay (ci := 6) rfl ms_X6_keptWay kM_X6_143 hk_1 hcc rfl rfl rfl hl.1 rfl rfl (Nat.le_of_ble_eq_true rfl) ⟨Nat.le_trans (by decide) hR.1, Nat.le_trans (by decide) hR.2⟩ dX6_traceAll_12 (fun H locs hH => ?_)
      refine q_astore_n (lv' := [(2, va_rf r_2), (0, .ref h), (1, .int v1)]) hx hb dX6_traceAll_15 rfl hl (by decide) rfl (fun ls hl => ?_)
      refine q_aload_n hx hb dX6_traceAll_16 rfl (lv_at hl 0 rfl) ?_
      refine q_ifnull (tgt := 32) hx hb dX6_traceAll_17 (by decide) hf (fun cc_4 hf => ?_) (fun a_5 cc_4 hf => ?_)
      · subst cc_4
        exact bX6_traceAll_32 E hR Zi hi hbd h v1 M _ _ _  hf hH (lv_sub hl [1, 2] rfl) kb kx0
      · subst cc_4
        refine lv_aload_n hx hb dX6_traceAll_20 rfl (lv_at hl 0 rfl) ?_
        refine lv_aload_n hx hb dX6_traceAll_21 rfl (lv_at hl 1 rfl) ?_
        refine q_getR E hH (ci := 6) rfl 1 (by decide) kF_X6_16 (fun _ _ _ => rfl) hk_1 dX6_traceAll_22 ?_
        obtain ⟨a_8, he_9, hf⟩ := q_biE hf
        rw [he_9]
        refine lv_aload_n hx hb dX6_traceAll_25 rfl (lv_at hl 1 rfl) ?_
        refine q_getR E hH (ci := 6) rfl 12 (by decide) kF_X6_59 (fun _ _ _ => rfl) hk_1 dX6_traceAll_26 ?_
        obtain ⟨a_10, he_11, hf⟩ := q_biE hf
        rw [he_11]
        obtain ⟨hk_12, hf⟩ := q_gdE hf
        have hk_12 := q_keq hk_12
        obtain ⟨Z_15, M_14, hw_13, hf⟩ := q_b2E hf
        have hq1 := (moX5_trace _ _ _ _ _ _ _ hw_13)
        have hq := moX6_traceAll_b32 _ _ _ _ _ hf
        refine q_cV (As := [.ref a_8, .ref a_10]) (rest := []) (st1 := []) E hH (tX5_trace l D cA z0 a_5 (some a_8) (some a_10) Z M Z_15 M_14 hw_13) mw_X5_trace mi_X5_trace (ci := 5) rfl ms_X5_trace kM_X6_218 hk_12 (q_bs hi hq1 hq hbd) (q_be1 hi hq1) (q_be2 hi hq1) rfl hl.1 rfl rfl (Nat.le_of_ble_eq_true rfl) ⟨Nat.le_trans (by decide) hR.1, Nat.le_trans (by decide) hR.2⟩ dX6_traceAll_29 (fun H locs hH => ?_)
        exact bX6_traceAll_32 E hR Zi (hi.tr hq1) hbd h v1 M_14 _ _ _  hf hH (lv_sub hl [1, 2] rfl) kb kx0
def fX6_traceAll_b38 (h : Nat) (Z : q_Z) (M : q_C) : Option (q_Z × q_C) :=
  some (Z, M)
theorem moX6_traceAll_b38 (h : Nat) (Z : q_Z) (M : q_C) (Z' : q_Z) (M' : q_C) (hf : fX6_traceAll_b38 h Z M = some (Z', M')) : q_le Z Z' := by
  unfold fX6_traceAll_b38 at hf
  cases hf
  exact q_le.rf
set_option maxHeartbeats 4000000 in
set_option maxRecDepth 100000 in
theorem bX6_traceAll_38 (E : q_E p s m meth c cX6_traceAll 3 RX6 none "traceAll" D cA) (hR : 5 ≤ R.frames ∧ 127 ≤ R.locals) (Zi : q_Z) {Z : q_Z} (hi : q_le Zi Z) {Z' : q_Z} {M' : q_C} (hbd : zS Z' - zS Zi ≤ R.cells ∧ zC Z' - zC Zi ≤ R.slots)  (h : Nat) (M : q_C) (H : Heap) (locs : List Loc) (ls : Array Slot) (hf : fX6_traceAll_b38 h Z M = some (Z', M')) (hH : q_Hh D cA z0 s Z M H locs) (hl : lv_has ls 3 [])  : W p l e R s m args below meth c H locs (zS Z - zS Zi) (zC Z - zC Zi) (MQ below (q_Q D cA z0 none Z' M') args s (zS Z' - zS Zi) (zC Z' - zC Zi) (fun q => z0 ≤ q)) (F0 m 38 ls []) := by
  have hx := E.1
  have hb := E.2.1
  have hown := E.2.2.2.1
  have hT := E.2.2.2.2.2.2.2.1
  have hcc := q_bd hi (moX6_traceAll_b38 _ _ _ _ _ hf) hbd
  unfold fX6_traceAll_b38 at hf
  cases hf
  exact q_vret E hH dX6_traceAll_38
def fX6_traceAll (h : Nat) (Z : q_Z) (M : q_C) : Option (q_Z × q_C) :=
  Option.bind (q_it (fun x => fX6_traceAll_L2 h x.1 x.2.1 x.2.2) q_FU ((0 : Int32), Z, M)) fun r_17 =>
  q_nm r_17.1 fun Z_19 =>
  q_nm r_17.2 fun M_20 =>
  fX6_traceAll_b38 h Z_19 M_20
theorem moX6_traceAll (h : Nat) (Z : q_Z) (M : q_C) (Z' : q_Z) (M' : q_C) (hf : fX6_traceAll h Z M = some (Z', M')) : q_le Z Z' := by
  unfold fX6_traceAll at hf
  obtain ⟨r_17, hr_18, hf⟩ := q_biE hf
  refine (moX6_traceAll_l2 _ _ _ _ hr_18).tr ?_
  replace hf := q_nmE (x := _) rfl hf
  replace hf := q_nmE (x := _) rfl hf
  exact moX6_traceAll_b38 _ _ _ _ _ hf
set_option maxHeartbeats 4000000 in
set_option maxRecDepth 100000 in
theorem bX6_traceAll_0 (E : q_E p s m meth c cX6_traceAll 3 RX6 none "traceAll" D cA) (hR : 5 ≤ R.frames ∧ 127 ≤ R.locals) (Zi : q_Z) {Z : q_Z} (hi : q_le Zi Z) {Z' : q_Z} {M' : q_C} (hbd : zS Z' - zS Zi ≤ R.cells ∧ zC Z' - zC Zi ≤ R.slots)  (h : Nat) (M : q_C) (H : Heap) (locs : List Loc) (ls : Array Slot) (hf : fX6_traceAll h Z M = some (Z', M')) (hH : q_Hh D cA z0 s Z M H locs) (hl : lv_has ls 3 [(0, .ref h)])  : W p l e R s m args below meth c H locs (zS Z - zS Zi) (zC Z - zC Zi) (MQ below (q_Q D cA z0 none Z' M') args s (zS Z' - zS Zi) (zC Z' - zC Zi) (fun q => z0 ≤ q)) (F0 m 0 ls []) := by
  have hx := E.1
  have hb := E.2.1
  have hown := E.2.2.2.1
  have hT := E.2.2.2.2.2.2.2.1
  have hcc := q_bd hi (moX6_traceAll _ _ _ _ _ hf) hbd
  unfold fX6_traceAll at hf
  refine lv_iconst (v := 0) hx hb dX6_traceAll_0 (by decide) ?_
  refine lv_istore_n (lv' := [(1, .int (0 : Int32)), (0, .ref h)]) hx hb dX6_traceAll_1 rfl hl (by decide) rfl (fun ls hl => ?_)
  obtain ⟨r_17, hr_18, hf⟩ := q_biE hf
  refine lX6_traceAll_2 E hR Zi h q_FU (0 : Int32) Z M _ _ _ r_17 hr_18 ?_ hH (lv_sub hl [1, 0] rfl) hi (fun Z_19 M_20 H locs ls he_21 hH hl hi => ?_)
  · refine q_bd (hi.tr (moX6_traceAll_l2 _ _ _ _ hr_18)) ?_ hbd
    replace hf := q_nmE (x := _) rfl hf
    replace hf := q_nmE (x := _) rfl hf
    exact moX6_traceAll_b38 _ _ _ _ _ hf
  · subst he_21
    replace hf := q_nmE (x := Z_19) rfl hf
    replace hf := q_nmE (x := M_20) rfl hf
    exact bX6_traceAll_38 E hR Zi hi hbd h M_20 _ _ _  hf hH (lv_sub hl [] rfl)
set_option maxRecDepth 100000 in
theorem tX6_traceAll (l : Launch) (D : va_G) (cA : Nat → ClassId) (z0 : Nat) (h : Nat) (Z : q_Z) (M : q_C) (Z' : q_Z) (M' : q_C) (hf : fX6_traceAll h Z M = some (Z', M')) : q_Ct l D cA z0 yX6_traceAll cX6_traceAll 3 none 5 127 [.ref h] Z M none Z' M' (zS Z' - zS Z) (zC Z' - zC Z) := by
  (refine q_start (plainFor_of_name (by decide)) (Nat.le_of_ble_eq_true rfl) (fun p e s m below meth c H ls E hH hl => ?_)
   refine q_wc (c1 := zS Z - zS Z) (s1 := zC Z - zC Z) (Nat.sub_self _).symm (Nat.sub_self _).symm ?_
   exact bX6_traceAll_0 E ⟨Nat.le_refl _, Nat.le_refl _⟩ Z q_le.rf ⟨Nat.le_refl _, Nat.le_refl _⟩ h M H [] ls hf hH hl)
def fX6_fitting_b56 (h : Nat) (v2 : Option Nat) (v3 : Int32) (v4 : Int32) (Z : q_Z) (M : q_C) : Option ((Int32 × Int32) ⊕ Int32) :=
  q_nm (v4 + (1 : Int32)) fun v4_14 =>
  some (Sum.inl (v3, v4_14))
set_option maxHeartbeats 4000000 in
set_option maxRecDepth 100000 in
theorem bX6_fitting_56 {cells slots : Nat} {Q : State → Prop} (E : q_E p s m meth c cX6_fitting 6 RX6 (some .int) "fitting" D cA) (hR : 6 ≤ R.frames ∧ 149 ≤ R.locals) (hcc : cells ≤ R.cells ∧ slots ≤ R.slots) (h : Nat) (v2 : Option Nat) (v3 : Int32) (v4 : Int32) (Z : q_Z) (M : q_C) (H : Heap) (locs : List Loc) (ls : Array Slot) (o : (Int32 × Int32) ⊕ Int32) (hf : fX6_fitting_b56 h v2 v3 v4 Z M = some o) (hH : q_Hh D cA z0 s Z M H locs) (hl : lv_has ls 6 [(0, .ref h), (2, va_rf v2), (3, .int v3), (4, .int v4)]) (kb : ∀ (w3 : Int32) (w4 : Int32) (H : Heap) (locs : List Loc) (ls : Array Slot), Sum.inl (w3, w4) = o → q_Hh D cA z0 s Z M H locs → lv_has ls 6 [(0, .ref h), (2, va_rf v2), (3, .int w3), (4, .int w4)] → W p l e R s m args below meth c H locs cells slots Q (F0 m 21 ls [])) (kx0 : ∀ (w3 : Int32) (H : Heap) (locs : List Loc) (ls : Array Slot), Sum.inr w3 = o → q_Hh D cA z0 s Z M H locs → lv_has ls 6 [(3, .int w3)] → W p l e R s m args below meth c H locs cells slots Q (F0 m 62 ls [])) : W p l e R s m args below meth c H locs cells slots Q (F0 m 56 ls []) := by
  have hx := E.1
  have hb := E.2.1
  have hown := E.2.2.2.1
  have hT := E.2.2.2.2.2.2.2.1
  unfold fX6_fitting_b56 at hf
  obtain ⟨v4_14, hn_15⟩ : ∃ y : Int32, y = v4 + (1 : Int32) := ⟨_, rfl⟩
  replace hf := q_nmE hn_15 hf
  refine lv_iinc (v := v4_14) (lv' := [(4, .int v4_14), (0, .ref h), (2, va_rf v2), (3, .int v3)]) hx hb dX6_fitting_56 hl (k := 3) rfl (by rw [hn_15]; rfl) (by decide) rfl (fun ls hl => ?_)
  clear hn_15
  refine lv_goto (tgt := 21) hx hb dX6_fitting_59 (by decide) ?_
  cases hf
  exact kb v3 v4_14 _ _ _ rfl hH (lv_sub hl [1, 2, 3, 0] rfl)
def fX6_fitting_L21 (h : Nat) (v2 : Option Nat) (v3 : Int32) (v4 : Int32) (Z : q_Z) (M : q_C) : Option ((Int32 × Int32) ⊕ Int32) :=
  q_gd (zK Z h == 16) <|
  if gI M h 10 ≤ v4 then
    some (Sum.inr v3)
  else
    Option.bind (fX6_keptWay h v4 Z M) fun r_10 =>
    q_on r_10 (
      fX6_fitting_b56 h v2 v3 v4 Z M
    ) fun a_13 =>
      Option.bind (fX6_isFitting h (some a_13) v2 Z M) fun r_16 =>
      if r_16 = 0 then
        fX6_fitting_b56 h v2 v3 v4 Z M
      else
        q_nm (v3 + (1 : Int32)) fun v3_18 =>
        fX6_fitting_b56 h v2 v3_18 v4 Z M
set_option maxHeartbeats 4000000 in
set_option maxRecDepth 100000 in
theorem lX6_fitting_21 {cells slots : Nat} {Q : State → Prop} (E : q_E p s m meth c cX6_fitting 6 RX6 (some .int) "fitting" D cA) (hR : 6 ≤ R.frames ∧ 149 ≤ R.locals) (hcc : cells ≤ R.cells ∧ slots ≤ R.slots)  (h : Nat) (v2 : Option Nat) (Z : q_Z) (M : q_C) : ∀ (n : Nat) (v3 : Int32) (v4 : Int32) (H : Heap) (locs : List Loc) (ls : Array Slot) (r : Int32), q_it (fun x => fX6_fitting_L21 h v2 x.1 x.2 Z M) n (v3, v4) = some r → q_Hh D cA z0 s Z M H locs → lv_has ls 6 [(0, .ref h), (2, va_rf v2), (3, .int v3), (4, .int v4)] → (kx0 : ∀ (w3 : Int32) (H : Heap) (locs : List Loc) (ls : Array Slot), w3 = r → q_Hh D cA z0 s Z M H locs → lv_has ls 6 [(3, .int w3)] → W p l e R s m args below meth c H locs cells slots Q (F0 m 62 ls [])) → W p l e R s m args below meth c H locs cells slots Q (F0 m 21 ls []) := by
  have hx := E.1
  have hb := E.2.1
  have hown := E.2.2.2.1
  have hT := E.2.2.2.2.2.2.2.1
  intro n
  induction n with
  | zero =>
    intro v3 v4 H locs ls r hf
    cases hf
  | succ n ih =>
    intro v3 v4 H locs ls r hf hH hl ky0
    obtain ⟨n1, o, hn, hf, ho⟩ := q_itE hf
    cases hn
    have hf : fX6_fitting_L21 h v2 v3 v4 Z M = some o := hf
    have kb : ∀ (w3 : Int32) (w4 : Int32) (H : Heap) (locs : List Loc) (ls : Array Slot), Sum.inl (w3, w4) = o → q_Hh D cA z0 s Z M H locs → lv_has ls 6 [(0, .ref h), (2, va_rf v2), (3, .int w3), (4, .int w4)] → W p l e R s m args below meth c H locs cells slots Q (F0 m 21 ls []) := by
      intro w3 w4 H locs ls e hH hl
      subst e
      exact ih w3 w4 H locs ls r ho hH hl ky0
    have kx0 : ∀ (w3 : Int32) (H : Heap) (locs : List Loc) (ls : Array Slot), Sum.inr w3 = o → q_Hh D cA z0 s Z M H locs → lv_has ls 6 [(3, .int w3)] → W p l e R s m args below meth c H locs cells slots Q (F0 m 62 ls []) := by
      intro w3 H locs ls e hH hl
      subst e
      exact ky0 w3 H locs ls ho hH hl
    unfold fX6_fitting_L21 at hf
    refine lv_iload hx hb dX6_fitting_21 (lv_at hl 3 rfl) ?_
    refine lv_aload_n hx hb dX6_fitting_23 rfl (lv_at hl 0 rfl) ?_
    obtain ⟨hk_9, hf⟩ := q_gdE hf
    have hk_9 := q_keq hk_9
    refine q_getI E hH (ci := 6) rfl 10 (by decide) kF_X6_50 (fun _ _ _ => rfl) hk_9 dX6_fitting_24 ?_
    refine lv_icmp_ge (tgt := 62) hx hb dX6_fitting_27 (by decide) (fun cc_21 => ?_) (fun cc_21 => ?_)
    · replace hf := q_ifT cc_21 hf
      clear cc_21
      cases hf
      exact kx0 v3 _ _ _ rfl hH (lv_sub hl [2] rfl)
    · replace hf := q_ifF cc_21 hf
      clear cc_21
      refine lv_aload_n hx hb dX6_fitting_30 rfl (lv_at hl 0 rfl) ?_
      refine lv_iload hx hb dX6_fitting_31 (lv_at hl 3 rfl) ?_
      obtain ⟨r_10, hw_11, hf⟩ := q_biE hf
      refine q_cV (As := [.int v4]) (rest := []) (st1 := [va_rf r_10]) E hH (tX6_keptWay l D cA z0 h v4 Z M r_10 hw_11) mw_X6_keptWay mi_X6_keptWay (ci := 6) rfl ms_X6_keptWay kM_X6_143 hk_9 hcc rfl rfl rfl hl.1 rfl rfl (Nat.le_of_ble_eq_true rfl) ⟨Nat.le_trans (by decide) hR.1, Nat.le_trans (by decide) hR.2⟩ dX6_fitting_33 (fun H locs hH => ?_)
      refine q_astore (lv' := [(5, va_rf r_10), (0, .ref h), (2, va_rf v2), (3, .int v3), (4, .int v4)]) hx hb dX6_fitting_36 hl (by decide) rfl (fun ls hl => ?_)
      refine q_aload hx hb dX6_fitting_38 (lv_at hl 0 rfl) ?_
      refine q_ifnull (tgt := 56) hx hb dX6_fitting_40 (by decide) hf (fun cc_12 hf => ?_) (fun a_13 cc_12 hf => ?_)
      · subst cc_12
        exact bX6_fitting_56 E hR hcc h v2 v3 v4 Z M _ _ _ _ hf hH (lv_sub hl [1, 2, 3, 4] rfl) kb kx0
      · subst cc_12
        refine lv_aload_n hx hb dX6_fitting_43 rfl (lv_at hl 1 rfl) ?_
        refine lv_aload hx hb dX6_fitting_44 (lv_at hl 0 rfl) ?_
        refine q_aload_n hx hb dX6_fitting_46 rfl (lv_at hl 2 rfl) ?_
        obtain ⟨r_16, hw_17, hf⟩ := q_biE hf
        refine q_cV (As := [.ref a_13, va_rf v2]) (rest := []) (st1 := [.int r_16]) E hH (tX6_isFitting l D cA z0 h (some a_13) v2 Z M r_16 hw_17) mw_X6_isFitting mi_X6_isFitting (ci := 6) rfl ms_X6_isFitting kM_X6_180 hk_9 hcc rfl rfl rfl hl.1 rfl rfl (Nat.le_of_ble_eq_true rfl) ⟨Nat.le_trans (by decide) hR.1, Nat.le_trans (by decide) hR.2⟩ dX6_fitting_47 (fun H locs hH => ?_)
        refine lv_if_eq (tgt := 56) hx hb dX6_fitting_50 (by decide) (fun cc_20 => ?_) (fun cc_20 => ?_)
        · replace hf := q_ifT cc_20 hf
          clear cc_20
          exact bX6_fitting_56 E hR hcc h v2 v3 v4 Z M _ _ _ _ hf hH (lv_sub hl [1, 2, 3, 4] rfl) kb kx0
        · replace hf := q_ifF cc_20 hf
          clear cc_20
          obtain ⟨v3_18, hn_19⟩ : ∃ y : Int32, y = v3 + (1 : Int32) := ⟨_, rfl⟩
          replace hf := q_nmE hn_19 hf
          refine lv_iinc (v := v3_18) (lv' := [(3, .int v3_18), (5, .ref a_13), (0, .ref h), (2, va_rf v2), (4, .int v4)]) hx hb dX6_fitting_53 hl (k := 3) rfl (by rw [hn_19]; rfl) (by decide) (by simp [q_rfc] <;> rfl) (fun ls hl => ?_)
          clear hn_19
          exact bX6_fitting_56 E hR hcc h v2 v3_18 v4 Z M _ _ _ _ hf hH (lv_sub hl [2, 3, 0, 4] rfl) kb kx0
def fX6_fitting_b16 (h : Nat) (v2 : Nat) (Z : q_Z) (M : q_C) : Option (Int32 × q_Z × q_C) :=
  Option.bind (q_it (fun x => fX6_fitting_L21 h (some v2) x.1 x.2 Z M) q_FU ((0 : Int32), (0 : Int32))) fun r_22 =>
  q_nm r_22 fun v3_24 =>
  some (v3_24, Z, M)
theorem moX6_fitting_b16 (h : Nat) (v2 : Nat) (Z : q_Z) (M : q_C) (r : Int32) (Z' : q_Z) (M' : q_C) (hf : fX6_fitting_b16 h v2 Z M = some (r, Z', M')) : q_le Z Z' := by
  unfold fX6_fitting_b16 at hf
  obtain ⟨r_22, hr_23, hf⟩ := q_biE hf
  replace hf := q_nmE (x := _) rfl hf
  cases hf
  exact q_le.rf
set_option maxHeartbeats 4000000 in
set_option maxRecDepth 100000 in
theorem bX6_fitting_16 (E : q_E p s m meth c cX6_fitting 6 RX6 (some .int) "fitting" D cA) (hR : 6 ≤ R.frames ∧ 149 ≤ R.locals) (Zi : q_Z) {Z : q_Z} (hi : q_le Zi Z) {r : Int32} {Z' : q_Z} {M' : q_C} (hbd : zS Z' - zS Zi ≤ R.cells ∧ zC Z' - zC Zi ≤ R.slots)  (h : Nat) (v2 : Nat) (M : q_C) (H : Heap) (locs : List Loc) (ls : Array Slot) (hf : fX6_fitting_b16 h v2 Z M = some (r, Z', M')) (hH : q_Hh D cA z0 s Z M H locs) (hl : lv_has ls 6 [(0, .ref h), (2, .ref v2)])  : W p l e R s m args below meth c H locs (zS Z - zS Zi) (zC Z - zC Zi) (MQ below (q_Q D cA z0 (some (.int r)) Z' M') args s (zS Z' - zS Zi) (zC Z' - zC Zi) (fun q => z0 ≤ q)) (F0 m 16 ls []) := by
  have hx := E.1
  have hb := E.2.1
  have hown := E.2.2.2.1
  have hT := E.2.2.2.2.2.2.2.1
  have hcc := q_bd hi (moX6_fitting_b16 _ _ _ _ _ _ _ hf) hbd
  unfold fX6_fitting_b16 at hf
  refine lv_iconst (v := 0) hx hb dX6_fitting_16 (by decide) ?_
  refine lv_istore_n (lv' := [(3, .int (0 : Int32)), (0, .ref h), (2, .ref v2)]) hx hb dX6_fitting_17 rfl hl (by decide) rfl (fun ls hl => ?_)
  refine lv_iconst (v := 0) hx hb dX6_fitting_18 (by decide) ?_
  refine lv_istore (lv' := [(4, .int (0 : Int32)), (3, .int (0 : Int32)), (0, .ref h), (2, .ref v2)]) hx hb dX6_fitting_19 hl (by decide) rfl (fun ls hl => ?_)
  obtain ⟨r_22, hr_23, hf⟩ := q_biE hf
  refine lX6_fitting_21 E hR hcc h (some v2) Z M q_FU (0 : Int32) (0 : Int32) _ _ _ r_22 hr_23 hH (lv_sub hl [2, 3, 1, 0] rfl) (fun v3_24 H locs ls he_25 hH hl => ?_)
  · subst he_25
    replace hf := q_nmE (x := v3_24) rfl hf
    refine lv_iload_n hx hb dX6_fitting_62 rfl (lv_at hl 0 rfl) ?_
    cases hf
    exact q_iret E hH dX6_fitting_63
def fX6_fitting (h : Nat) (v1 : Int32) (Z : q_Z) (M : q_C) : Option (Int32 × q_Z × q_C) :=
  q_gd (zK Z h == 16) <|
  Option.bind (fX6_sightOf h v1 Z M) fun r_2 =>
  q_on r_2 (
    some ((-1 : Int32), Z, M)
  ) fun a_5 =>
    q_b2 (fX6_traceAll h Z M) fun Z_8 M_7 =>
    fX6_fitting_b16 h a_5 Z_8 M_7
theorem moX6_fitting (h : Nat) (v1 : Int32) (Z : q_Z) (M : q_C) (r : Int32) (Z' : q_Z) (M' : q_C) (hf : fX6_fitting h v1 Z M = some (r, Z', M')) : q_le Z Z' := by
  unfold fX6_fitting at hf
  obtain ⟨-, hf⟩ := q_gdE hf
  obtain ⟨r_2, hw_3, hf⟩ := q_biE hf
  rcases q_onC hf with hf | ⟨a_5, hf⟩
  · cases hf
    exact q_le.rf
  · obtain ⟨Z_8, M_7, hw_6, hf⟩ := q_b2E hf
    have hq := moX6_traceAll _ _ _ _ _ hw_6
    exact hq.tr (moX6_fitting_b16 _ _ _ _ _ _ _ hf)
set_option maxHeartbeats 4000000 in
set_option maxRecDepth 100000 in
theorem bX6_fitting_0 (E : q_E p s m meth c cX6_fitting 6 RX6 (some .int) "fitting" D cA) (hR : 6 ≤ R.frames ∧ 149 ≤ R.locals) (Zi : q_Z) {Z : q_Z} (hi : q_le Zi Z) {r : Int32} {Z' : q_Z} {M' : q_C} (hbd : zS Z' - zS Zi ≤ R.cells ∧ zC Z' - zC Zi ≤ R.slots)  (h : Nat) (v1 : Int32) (M : q_C) (H : Heap) (locs : List Loc) (ls : Array Slot) (hf : fX6_fitting h v1 Z M = some (r, Z', M')) (hH : q_Hh D cA z0 s Z M H locs) (hl : lv_has ls 6 [(0, .ref h), (1, .int v1)])  : W p l e R s m args below meth c H locs (zS Z - zS Zi) (zC Z - zC Zi) (MQ below (q_Q D cA z0 (some (.int r)) Z' M') args s (zS Z' - zS Zi) (zC Z' - zC Zi) (fun q => z0 ≤ q)) (F0 m 0 ls []) := by
  have hx := E.1
  have hb := E.2.1
  have hown := E.2.2.2.1
  have hT := E.2.2.2.2.2.2.2.1
  have hcc := q_bd hi (moX6_fitting _ _ _ _ _ _ _ hf) hbd
  unfold fX6_fitting at hf
  refine lv_aload_n hx hb dX6_fitting_0 rfl (lv_at hl 0 rfl) ?_
  refine lv_iload_n hx hb dX6_fitting_1 rfl (lv_at hl 1 rfl) ?_
  obtain ⟨hk_1, hf⟩ := q_gdE hf
  have hk_1 := q_keq hk_1
  obtain ⟨r_2, hw_3, hf⟩ := q_biE hf
  refine q_cV (As := [.int v1]) (rest := []) (st1 := [va_rf r_2]) E hH (tX6_sightOf l D cA z0 h v1 Z M r_2 hw_3) mw_X6_sightOf mi_X6_sightOf (ci := 6) rfl ms_X6_sightOf kM_X6_124 hk_1 hcc rfl rfl rfl hl.1 rfl rfl (Nat.le_of_ble_eq_true rfl) ⟨Nat.le_trans (by decide) hR.1, Nat.le_trans (by decide) hR.2⟩ dX6_fitting_2 (fun H locs hH => ?_)
  refine q_astore_n (lv' := [(2, va_rf r_2), (0, .ref h), (1, .int v1)]) hx hb dX6_fitting_5 rfl hl (by decide) rfl (fun ls hl => ?_)
  refine q_aload_n hx hb dX6_fitting_6 rfl (lv_at hl 0 rfl) ?_
  refine q_ifnonnull (tgt := 12) hx hb dX6_fitting_7 (by decide) hf (fun cc_4 hf => ?_) (fun a_5 cc_4 hf => ?_)
  · subst cc_4
    refine lv_iconst (v := -1) hx hb dX6_fitting_10 (by decide) ?_
    cases hf
    exact q_iret E hH dX6_fitting_11
  · subst cc_4
    refine lv_aload_n hx hb dX6_fitting_12 rfl (lv_at hl 1 rfl) ?_
    obtain ⟨Z_8, M_7, hw_6, hf⟩ := q_b2E hf
    have hq1 := (moX6_traceAll _ _ _ _ _ hw_6)
    have hq := moX6_fitting_b16 _ _ _ _ _ _ _ hf
    refine q_cV (As := []) (rest := []) (st1 := []) E hH (tX6_traceAll l D cA z0 h Z M Z_8 M_7 hw_6) mw_X6_traceAll mi_X6_traceAll (ci := 6) rfl ms_X6_traceAll kM_X6_184 hk_1 (q_bs hi hq1 hq hbd) (q_be1 hi hq1) (q_be2 hi hq1) rfl hl.1 rfl rfl (Nat.le_of_ble_eq_true rfl) ⟨Nat.le_trans (by decide) hR.1, Nat.le_trans (by decide) hR.2⟩ dX6_fitting_13 (fun H locs hH => ?_)
    exact bX6_fitting_16 E hR Zi (hi.tr hq1) hbd h a_5 M_7 _ _ _  hf hH (lv_sub hl [1, 0] rfl)
set_option maxRecDepth 100000 in
theorem tX6_fitting (l : Launch) (D : va_G) (cA : Nat → ClassId) (z0 : Nat) (h : Nat) (v1 : Int32) (Z : q_Z) (M : q_C) (r : Int32) (Z' : q_Z) (M' : q_C) (hf : fX6_fitting h v1 Z M = some (r, Z', M')) : q_Ct l D cA z0 yX6_fitting cX6_fitting 6 (some .int) 6 149 [.ref h, .int v1] Z M (some (.int r)) Z' M' (zS Z' - zS Z) (zC Z' - zC Z) := by
  (refine q_start (plainFor_of_name (by decide)) (Nat.le_of_ble_eq_true rfl) (fun p e s m below meth c H ls E hH hl => ?_)
   refine q_wc (c1 := zS Z - zS Z) (s1 := zC Z - zC Z) (Nat.sub_self _).symm (Nat.sub_self _).symm ?_
   exact bX6_fitting_0 E ⟨Nat.le_refl _, Nat.le_refl _⟩ Z q_le.rf ⟨Nat.le_refl _, Nat.le_refl _⟩ h _ M H [] ls hf hH hl)
def fX6_without_b23 (h : Nat) (Z : q_Z) (M : q_C) : Option (Int32 × q_Z × q_C) :=
  some ((-1 : Int32), Z, M)
theorem moX6_without_b23 (h : Nat) (Z : q_Z) (M : q_C) (r : Int32) (Z' : q_Z) (M' : q_C) (hf : fX6_without_b23 h Z M = some (r, Z', M')) : q_le Z Z' := by
  unfold fX6_without_b23 at hf
  cases hf
  exact q_le.rf
set_option maxHeartbeats 4000000 in
set_option maxRecDepth 100000 in
theorem bX6_without_23 (E : q_E p s m meth c cX6_without 2 RX6 (some .int) "without" D cA) (hR : 6 ≤ R.frames ∧ 157 ≤ R.locals) (Zi : q_Z) {Z : q_Z} (hi : q_le Zi Z) {r : Int32} {Z' : q_Z} {M' : q_C} (hbd : zS Z' - zS Zi ≤ R.cells ∧ zC Z' - zC Zi ≤ R.slots)  (h : Nat) (M : q_C) (H : Heap) (locs : List Loc) (ls : Array Slot) (hf : fX6_without_b23 h Z M = some (r, Z', M')) (hH : q_Hh D cA z0 s Z M H locs) (hl : lv_has ls 2 [])  : W p l e R s m args below meth c H locs (zS Z - zS Zi) (zC Z - zC Zi) (MQ below (q_Q D cA z0 (some (.int r)) Z' M') args s (zS Z' - zS Zi) (zC Z' - zC Zi) (fun q => z0 ≤ q)) (F0 m 23 ls []) := by
  have hx := E.1
  have hb := E.2.1
  have hown := E.2.2.2.1
  have hT := E.2.2.2.2.2.2.2.1
  have hcc := q_bd hi (moX6_without_b23 _ _ _ _ _ _ hf) hbd
  unfold fX6_without_b23 at hf
  refine lv_iconst (v := -1) hx hb dX6_without_23 (by decide) ?_
  cases hf
  exact q_iret E hH dX6_without_24
def fX6_without_b31 (h : Nat) (s0 : Int32) (Z : q_Z) (M : q_C) : Option (Int32 × q_Z × q_C) :=
  some (s0, Z, M)
theorem moX6_without_b31 (h : Nat) (s0 : Int32) (Z : q_Z) (M : q_C) (r : Int32) (Z' : q_Z) (M' : q_C) (hf : fX6_without_b31 h s0 Z M = some (r, Z', M')) : q_le Z Z' := by
  unfold fX6_without_b31 at hf
  cases hf
  exact q_le.rf
set_option maxHeartbeats 4000000 in
set_option maxRecDepth 100000 in
theorem bX6_without_31 (E : q_E p s m meth c cX6_without 2 RX6 (some .int) "without" D cA) (hR : 6 ≤ R.frames ∧ 157 ≤ R.locals) (Zi : q_Z) {Z : q_Z} (hi : q_le Zi Z) {r : Int32} {Z' : q_Z} {M' : q_C} (hbd : zS Z' - zS Zi ≤ R.cells ∧ zC Z' - zC Zi ≤ R.slots)  (h : Nat) (s0 : Int32) (M : q_C) (H : Heap) (locs : List Loc) (ls : Array Slot) (hf : fX6_without_b31 h s0 Z M = some (r, Z', M')) (hH : q_Hh D cA z0 s Z M H locs) (hl : lv_has ls 2 [])  : W p l e R s m args below meth c H locs (zS Z - zS Zi) (zC Z - zC Zi) (MQ below (q_Q D cA z0 (some (.int r)) Z' M') args s (zS Z' - zS Zi) (zC Z' - zC Zi) (fun q => z0 ≤ q)) (F0 m 31 ls [.int s0]) := by
  have hx := E.1
  have hb := E.2.1
  have hown := E.2.2.2.1
  have hT := E.2.2.2.2.2.2.2.1
  have hcc := q_bd hi (moX6_without_b31 _ _ _ _ _ _ _ hf) hbd
  unfold fX6_without_b31 at hf
  cases hf
  exact q_iret E hH dX6_without_31
def fX6_without (h : Nat) (v1 : Int32) (Z : q_Z) (M : q_C) : Option (Int32 × q_Z × q_C) :=
  q_gd (zK Z h == 16) <|
  Option.bind (fX6_hasBase h Z M) fun r_2 =>
  if r_2 = 0 then
    fX6_without_b23 h Z M
  else
    Option.bind (fX6_sightOf h v1 Z M) fun r_4 =>
    q_on r_4 (
      fX6_without_b23 h Z M
    ) fun a_7 =>
      Option.bind (fX6_isOfBase h v1 Z M) fun r_8 =>
      if r_8 = 0 then
        q_b3 (fX6_search h v1 (0 : Int32) Z M) fun r_10 Z_13 M_12 =>
        fX6_without_b31 h r_10 Z_13 M_12
      else
        fX6_without_b23 h Z M
theorem moX6_without (h : Nat) (v1 : Int32) (Z : q_Z) (M : q_C) (r : Int32) (Z' : q_Z) (M' : q_C) (hf : fX6_without h v1 Z M = some (r, Z', M')) : q_le Z Z' := by
  unfold fX6_without at hf
  obtain ⟨-, hf⟩ := q_gdE hf
  obtain ⟨r_2, hw_3, hf⟩ := q_biE hf
  rcases q_ifC hf with hf | hf
  · exact moX6_without_b23 _ _ _ _ _ _ hf
  · obtain ⟨r_4, hw_5, hf⟩ := q_biE hf
    rcases q_onC hf with hf | ⟨a_7, hf⟩
    · exact moX6_without_b23 _ _ _ _ _ _ hf
    · obtain ⟨r_8, hw_9, hf⟩ := q_biE hf
      rcases q_ifC hf with hf | hf
      · obtain ⟨r_10, Z_13, M_12, hw_11, hf⟩ := q_b3E hf
        have hq := moX6_search _ _ _ _ _ _ _ _ hw_11
        exact hq.tr (moX6_without_b31 _ _ _ _ _ _ _ hf)
      · exact moX6_without_b23 _ _ _ _ _ _ hf
set_option maxHeartbeats 4000000 in
set_option maxRecDepth 100000 in
theorem bX6_without_0 (E : q_E p s m meth c cX6_without 2 RX6 (some .int) "without" D cA) (hR : 6 ≤ R.frames ∧ 157 ≤ R.locals) (Zi : q_Z) {Z : q_Z} (hi : q_le Zi Z) {r : Int32} {Z' : q_Z} {M' : q_C} (hbd : zS Z' - zS Zi ≤ R.cells ∧ zC Z' - zC Zi ≤ R.slots)  (h : Nat) (v1 : Int32) (M : q_C) (H : Heap) (locs : List Loc) (ls : Array Slot) (hf : fX6_without h v1 Z M = some (r, Z', M')) (hH : q_Hh D cA z0 s Z M H locs) (hl : lv_has ls 2 [(0, .ref h), (1, .int v1)])  : W p l e R s m args below meth c H locs (zS Z - zS Zi) (zC Z - zC Zi) (MQ below (q_Q D cA z0 (some (.int r)) Z' M') args s (zS Z' - zS Zi) (zC Z' - zC Zi) (fun q => z0 ≤ q)) (F0 m 0 ls []) := by
  have hx := E.1
  have hb := E.2.1
  have hown := E.2.2.2.1
  have hT := E.2.2.2.2.2.2.2.1
  have hcc := q_bd hi (moX6_without _ _ _ _ _ _ _ hf) hbd
  unfold fX6_without at hf
  refine lv_aload_n hx hb dX6_without_0 rfl (lv_at hl 0 rfl) ?_
  obtain ⟨hk_1, hf⟩ := q_gdE hf
  have hk_1 := q_keq hk_1
  obtain ⟨r_2, hw_3, hf⟩ := q_biE hf
  refine q_cV (As := []) (rest := []) (st1 := [.int r_2]) E hH (tX6_hasBase l D cA z0 h Z M r_2 hw_3) mw_X6_hasBase mi_X6_hasBase (ci := 6) rfl ms_X6_hasBase kM_X6_131 hk_1 hcc rfl rfl rfl hl.1 rfl rfl (Nat.le_of_ble_eq_true rfl) ⟨Nat.le_trans (by decide) hR.1, Nat.le_trans (by decide) hR.2⟩ dX6_without_1 (fun H locs hH => ?_)
  refine lv_if_eq (tgt := 23) hx hb dX6_without_4 (by decide) (fun cc_15 => ?_) (fun cc_15 => ?_)
  · replace hf := q_ifT cc_15 hf
    clear cc_15
    exact bX6_without_23 E hR Zi hi hbd h M _ _ _  hf hH (lv_sub hl [] rfl)
  · replace hf := q_ifF cc_15 hf
    clear cc_15
    refine lv_aload_n hx hb dX6_without_7 rfl (lv_at hl 0 rfl) ?_
    refine lv_iload_n hx hb dX6_without_8 rfl (lv_at hl 1 rfl) ?_
    obtain ⟨r_4, hw_5, hf⟩ := q_biE hf
    refine q_cV (As := [.int v1]) (rest := []) (st1 := [va_rf r_4]) E hH (tX6_sightOf l D cA z0 h v1 Z M r_4 hw_5) mw_X6_sightOf mi_X6_sightOf (ci := 6) rfl ms_X6_sightOf kM_X6_124 hk_1 hcc rfl rfl rfl hl.1 rfl rfl (Nat.le_of_ble_eq_true rfl) ⟨Nat.le_trans (by decide) hR.1, Nat.le_trans (by decide) hR.2⟩ dX6_without_9 (fun H locs hH => ?_)
    refine q_ifnull (tgt := 23) hx hb dX6_without_12 (by decide) hf (fun cc_6 hf => ?_) (fun a_7 cc_6 hf => ?_)
    · subst cc_6
      exact bX6_without_23 E hR Zi hi hbd h M _ _ _  hf hH (lv_sub hl [] rfl)
    · subst cc_6
      refine lv_aload_n hx hb dX6_without_15 rfl (lv_at hl 0 rfl) ?_
      refine lv_iload_n hx hb dX6_without_16 rfl (lv_at hl 1 rfl) ?_
      obtain ⟨r_8, hw_9, hf⟩ := q_biE hf
      refine q_cV (As := [.int v1]) (rest := []) (st1 := [.int r_8]) E hH (tX6_isOfBase l D cA z0 h v1 Z M r_8 hw_9) mw_X6_isOfBase mi_X6_isOfBase (ci := 6) rfl ms_X6_isOfBase kM_X6_128 hk_1 hcc rfl rfl rfl hl.1 rfl rfl (Nat.le_of_ble_eq_true rfl) ⟨Nat.le_trans (by decide) hR.1, Nat.le_trans (by decide) hR.2⟩ dX6_without_17 (fun H locs hH => ?_)
      refine lv_if_eq (tgt := 25) hx hb dX6_without_20 (by decide) (fun cc_14 => ?_) (fun cc_14 => ?_)
      · replace hf := q_ifT cc_14 hf
        clear cc_14
        refine lv_aload_n hx hb dX6_without_25 rfl (lv_at hl 0 rfl) ?_
        refine lv_iload_n hx hb dX6_without_26 rfl (lv_at hl 1 rfl) ?_
        refine lv_iconst (v := 0) hx hb dX6_without_27 (by decide) ?_
        obtain ⟨r_10, Z_13, M_12, hw_11, hf⟩ := q_b3E hf
        have hq1 := (moX6_search _ _ _ _ _ _ _ _ hw_11)
        have hq := moX6_without_b31 _ _ _ _ _ _ _ hf
        refine q_cV (As := [.int v1, .int (0 : Int32)]) (rest := []) (st1 := [.int r_10]) E hH (tX6_search l D cA z0 h v1 (0 : Int32) Z M r_10 Z_13 M_12 hw_11) mw_X6_search mi_X6_search (ci := 6) rfl ms_X6_search kM_X6_139 hk_1 (q_bs hi hq1 hq hbd) (q_be1 hi hq1) (q_be2 hi hq1) rfl hl.1 rfl rfl (Nat.le_of_ble_eq_true rfl) ⟨Nat.le_trans (by decide) hR.1, Nat.le_trans (by decide) hR.2⟩ dX6_without_28 (fun H locs hH => ?_)
        exact bX6_without_31 E hR Zi (hi.tr hq1) hbd h r_10 M_12 _ _ _  hf hH (lv_sub hl [] rfl)
      · replace hf := q_ifF cc_14 hf
        clear cc_14
        exact bX6_without_23 E hR Zi hi hbd h M _ _ _  hf hH (lv_sub hl [] rfl)
set_option maxRecDepth 100000 in
theorem tX6_without (l : Launch) (D : va_G) (cA : Nat → ClassId) (z0 : Nat) (h : Nat) (v1 : Int32) (Z : q_Z) (M : q_C) (r : Int32) (Z' : q_Z) (M' : q_C) (hf : fX6_without h v1 Z M = some (r, Z', M')) : q_Ct l D cA z0 yX6_without cX6_without 2 (some .int) 6 157 [.ref h, .int v1] Z M (some (.int r)) Z' M' (zS Z' - zS Z) (zC Z' - zC Z) := by
  (refine q_start (plainFor_of_name (by decide)) (Nat.le_of_ble_eq_true rfl) (fun p e s m below meth c H ls E hH hl => ?_)
   refine q_wc (c1 := zS Z - zS Z) (s1 := zC Z - zC Z) (Nat.sub_self _).symm (Nat.sub_self _).symm ?_
   exact bX6_without_0 E ⟨Nat.le_refl _, Nat.le_refl _⟩ Z q_le.rf ⟨Nat.le_refl _, Nat.le_refl _⟩ h _ M H [] ls hf hH hl)
end Q242
