section Q234
variable {p : Program} {l : Launch} {e : Env} {R : Room} {s : State} {m : MethodId} {args : Array Value} {below : List Frame} {meth : Method} {c : Code} {D : va_G} {cA : Nat → ClassId} {z0 : Nat}
def fX7_without_b32 (h : Nat) (Z : q_Z) (M : q_C) : Option (Int32 × q_C) :=
  some ((-1 : Int32), M)
set_option maxHeartbeats 4000000 in
set_option maxRecDepth 100000 in
theorem bX7_without_32 {cells slots : Nat} (E : q_E p s m meth c cX7_without 8 RX7 (some .int) "without" D cA) (hR : 5 ≤ R.frames ∧ 142 ≤ R.locals) (hcc : cells ≤ R.cells ∧ slots ≤ R.slots) (h : Nat) (Z : q_Z) (M : q_C) (H : Heap) (locs : List Loc) (ls : Array Slot) (r : Int32) (M' : q_C) (hf : fX7_without_b32 h Z M = some (r, M')) (hH : q_Hh D cA z0 s Z M H locs) (hl : lv_has ls 8 [])  : W p l e R s m args below meth c H locs cells slots (MQ below (q_Q D cA z0 (some (.int r)) Z M') args s cells slots (fun q => z0 ≤ q)) (F0 m 32 ls []) := by
  have hx := E.1
  have hb := E.2.1
  have hown := E.2.2.2.1
  have hT := E.2.2.2.2.2.2.2.1
  unfold fX7_without_b32 at hf
  refine lv_iconst (v := -1) hx hb dX7_without_32 (by decide) ?_
  cases hf
  exact q_iret E hH dX7_without_33
def fX7_without_b132 (h : Nat) (v1 : Int32) (v2 : Int32) (v3 : Int32) (v4 : Int32) (v6 : Int32) (v7 : Int32) (s0 : Int32) (s1 : Int32) (Z : q_Z) (M : q_C) : Option ((Int32 × Int32 × q_C) ⊕ (Int32 × q_C)) :=
  q_nm (s1 + s0) fun v5_27 =>
  q_nm (v7 + (1 : Int32)) fun v7_29 =>
  some (Sum.inl (v5_27, v7_29, M))
set_option maxHeartbeats 4000000 in
set_option maxRecDepth 100000 in
theorem bX7_without_132 {cells slots : Nat} {Q : State → Prop} (E : q_E p s m meth c cX7_without 8 RX7 (some .int) "without" D cA) (hR : 5 ≤ R.frames ∧ 142 ≤ R.locals) (hcc : cells ≤ R.cells ∧ slots ≤ R.slots) (h : Nat) (v1 : Int32) (v2 : Int32) (v3 : Int32) (v4 : Int32) (v6 : Int32) (v7 : Int32) (s0 : Int32) (s1 : Int32) (Z : q_Z) (M : q_C) (H : Heap) (locs : List Loc) (ls : Array Slot) (o : (Int32 × Int32 × q_C) ⊕ (Int32 × q_C)) (hf : fX7_without_b132 h v1 v2 v3 v4 v6 v7 s0 s1 Z M = some o) (hH : q_Hh D cA z0 s Z M H locs) (hl : lv_has ls 8 [(0, .ref h), (1, .int v1), (2, .int v2), (3, .int v3), (4, .int v4), (6, .int v6), (7, .int v7)]) (kb : ∀ (w5 : Int32) (w7 : Int32) (M1 : q_C) (H : Heap) (locs : List Loc) (ls : Array Slot), Sum.inl (w5, w7, M1) = o → q_Hh D cA z0 s Z M1 H locs → lv_has ls 8 [(0, .ref h), (1, .int v1), (2, .int v2), (3, .int v3), (4, .int v4), (5, .int w5), (6, .int v6), (7, .int w7)] → W p l e R s m args below meth c H locs cells slots Q (F0 m 81 ls [])) (kx0 : ∀ (w5 : Int32) (M1 : q_C) (H : Heap) (locs : List Loc) (ls : Array Slot), Sum.inr (w5, M1) = o → q_Hh D cA z0 s Z M1 H locs → lv_has ls 8 [(0, .ref h), (1, .int v1), (2, .int v2), (3, .int v3), (4, .int v4), (5, .int w5), (6, .int v6)] → W p l e R s m args below meth c H locs cells slots Q (F0 m 141 ls [])) : W p l e R s m args below meth c H locs cells slots Q (F0 m 132 ls [.int s0, .int s1]) := by
  have hx := E.1
  have hb := E.2.1
  have hown := E.2.2.2.1
  have hT := E.2.2.2.2.2.2.2.1
  unfold fX7_without_b132 at hf
  refine lv_iadd hx hb dX7_without_132 ?_
  refine lv_topi (fun v5_27 hn_28 => ?_)
  replace hf := q_nmE hn_28 hf
  clear hn_28
  refine lv_istore (lv' := [(5, .int v5_27), (0, .ref h), (1, .int v1), (2, .int v2), (3, .int v3), (4, .int v4), (6, .int v6), (7, .int v7)]) hx hb dX7_without_133 hl (by decide) rfl (fun ls hl => ?_)
  obtain ⟨v7_29, hn_30⟩ : ∃ y : Int32, y = v7 + (1 : Int32) := ⟨_, rfl⟩
  replace hf := q_nmE hn_30 hf
  refine lv_iinc (v := v7_29) (lv' := [(7, .int v7_29), (5, .int v5_27), (0, .ref h), (1, .int v1), (2, .int v2), (3, .int v3), (4, .int v4), (6, .int v6)]) hx hb dX7_without_135 hl (k := 7) rfl (by rw [hn_30]; rfl) (by decide) rfl (fun ls hl => ?_)
  clear hn_30
  refine lv_goto (tgt := 81) hx hb dX7_without_138 (by decide) ?_
  cases hf
  exact kb v5_27 v7_29 M _ _ _ rfl hH (lv_sub hl [2, 3, 4, 5, 6, 1, 7, 0] rfl)
def fX7_without_L81 (h : Nat) (v1 : Int32) (v2 : Int32) (v3 : Int32) (v4 : Int32) (v6 : Int32) (v5 : Int32) (v7 : Int32) (Z : q_Z) (M : q_C) : Option ((Int32 × Int32 × q_C) ⊕ (Int32 × q_C)) :=
  q_gd (zK Z h == 17) <|
  if gI M h 10 ≤ v7 then
    some (Sum.inr (v5, M))
  else
    Option.bind (fX7_begins h v6 v7 Z M) fun M_19 =>
    Option.bind (gR M_19 h 7) fun a_20 =>
    q_gd (q_ok Z a_20 1 (((5 : Int32) * (gI M_19 h 11)) + (1 : Int32))) <|
    Option.bind (fX7_follows h v2 (gI M_19 a_20 (((5 : Int32) * (gI M_19 h 11)) + (1 : Int32)).toNatClampNeg) Z M_19) fun M_24 =>
    Option.bind (fX7_fitsAll h v2 v1 Z M_24) fun r_25 =>
    if r_25 = 0 then
      fX7_without_b132 h v1 v2 v3 v4 v6 v7 (0 : Int32) v5 Z M_24
    else
      fX7_without_b132 h v1 v2 v3 v4 v6 v7 (1 : Int32) v5 Z M_24
set_option maxHeartbeats 4000000 in
set_option maxRecDepth 100000 in
theorem lX7_without_81 {cells slots : Nat} {Q : State → Prop} (E : q_E p s m meth c cX7_without 8 RX7 (some .int) "without" D cA) (hR : 5 ≤ R.frames ∧ 142 ≤ R.locals) (hcc : cells ≤ R.cells ∧ slots ≤ R.slots)  (h : Nat) (v1 : Int32) (v2 : Int32) (v3 : Int32) (v4 : Int32) (v6 : Int32) (Z : q_Z) : ∀ (n : Nat) (v5 : Int32) (v7 : Int32) (M : q_C) (H : Heap) (locs : List Loc) (ls : Array Slot) (r : (Int32 × q_C)), q_it (fun x => fX7_without_L81 h v1 v2 v3 v4 v6 x.1 x.2.1 Z x.2.2) n (v5, v7, M) = some r → q_Hh D cA z0 s Z M H locs → lv_has ls 8 [(0, .ref h), (1, .int v1), (2, .int v2), (3, .int v3), (4, .int v4), (5, .int v5), (6, .int v6), (7, .int v7)] → (kx0 : ∀ (w5 : Int32) (M1 : q_C) (H : Heap) (locs : List Loc) (ls : Array Slot), (w5, M1) = r → q_Hh D cA z0 s Z M1 H locs → lv_has ls 8 [(0, .ref h), (1, .int v1), (2, .int v2), (3, .int v3), (4, .int v4), (5, .int w5), (6, .int v6)] → W p l e R s m args below meth c H locs cells slots Q (F0 m 141 ls [])) → W p l e R s m args below meth c H locs cells slots Q (F0 m 81 ls []) := by
  have hx := E.1
  have hb := E.2.1
  have hown := E.2.2.2.1
  have hT := E.2.2.2.2.2.2.2.1
  intro n
  induction n with
  | zero =>
    intro v5 v7 M H locs ls r hf
    cases hf
  | succ n ih =>
    intro v5 v7 M H locs ls r hf hH hl ky0
    obtain ⟨n1, o, hn, hf, ho⟩ := q_itE hf
    cases hn
    have hf : fX7_without_L81 h v1 v2 v3 v4 v6 v5 v7 Z M = some o := hf
    have kb : ∀ (w5 : Int32) (w7 : Int32) (M1 : q_C) (H : Heap) (locs : List Loc) (ls : Array Slot), Sum.inl (w5, w7, M1) = o → q_Hh D cA z0 s Z M1 H locs → lv_has ls 8 [(0, .ref h), (1, .int v1), (2, .int v2), (3, .int v3), (4, .int v4), (5, .int w5), (6, .int v6), (7, .int w7)] → W p l e R s m args below meth c H locs cells slots Q (F0 m 81 ls []) := by
      intro w5 w7 M1 H locs ls e hH hl
      subst e
      exact ih w5 w7 M1 H locs ls r ho hH hl ky0
    have kx0 : ∀ (w5 : Int32) (M1 : q_C) (H : Heap) (locs : List Loc) (ls : Array Slot), Sum.inr (w5, M1) = o → q_Hh D cA z0 s Z M1 H locs → lv_has ls 8 [(0, .ref h), (1, .int v1), (2, .int v2), (3, .int v3), (4, .int v4), (5, .int w5), (6, .int v6)] → W p l e R s m args below meth c H locs cells slots Q (F0 m 141 ls []) := by
      intro w5 M1 H locs ls e hH hl
      subst e
      exact ky0 w5 M1 H locs ls ho hH hl
    unfold fX7_without_L81 at hf
    refine lv_iload hx hb dX7_without_81 (lv_at hl 7 rfl) ?_
    refine lv_aload_n hx hb dX7_without_83 rfl (lv_at hl 0 rfl) ?_
    obtain ⟨hk_17, hf⟩ := q_gdE hf
    have hk_17 := q_keq hk_17
    refine q_getI E hH (ci := 7) rfl 10 (by decide) kF_X7_41 (fun _ _ _ => rfl) hk_17 dX7_without_84 ?_
    refine lv_icmp_ge (tgt := 141) hx hb dX7_without_87 (by decide) (fun cc_32 => ?_) (fun cc_32 => ?_)
    · replace hf := q_ifT cc_32 hf
      clear cc_32
      cases hf
      exact kx0 v5 M _ _ _ rfl hH (lv_sub hl [0, 1, 2, 3, 4, 5, 6] rfl)
    · replace hf := q_ifF cc_32 hf
      clear cc_32
      refine lv_aload_n hx hb dX7_without_90 rfl (lv_at hl 0 rfl) ?_
      refine lv_iload hx hb dX7_without_91 (lv_at hl 6 rfl) ?_
      refine lv_iload hx hb dX7_without_93 (lv_at hl 7 rfl) ?_
      obtain ⟨M_19, hw_18, hf⟩ := q_biE hf
      refine q_cV (As := [.int v6, .int v7]) (rest := []) (st1 := []) E hH (tX7_begins l D cA z0 h v6 v7 Z M M_19 hw_18) mw_X7_begins mi_X7_begins (ci := 7) rfl ms_X7_begins kM_X7_175 hk_17 hcc rfl rfl rfl hl.1 rfl rfl (Nat.le_of_ble_eq_true rfl) ⟨Nat.le_trans (by decide) hR.1, Nat.le_trans (by decide) hR.2⟩ dX7_without_95 (fun H locs hH => ?_)
      refine lv_aload_n hx hb dX7_without_98 rfl (lv_at hl 0 rfl) ?_
      refine lv_iload_n hx hb dX7_without_99 rfl (lv_at hl 2 rfl) ?_
      refine lv_aload_n hx hb dX7_without_100 rfl (lv_at hl 0 rfl) ?_
      refine q_getR E hH (ci := 7) rfl 7 (by decide) kF_X7_32 (fun _ _ _ => rfl) hk_17 dX7_without_101 ?_
      obtain ⟨a_20, he_21, hf⟩ := q_biE hf
      rw [he_21]
      refine lv_iconst (v := 5) hx hb dX7_without_104 (by decide) ?_
      refine lv_aload_n hx hb dX7_without_105 rfl (lv_at hl 0 rfl) ?_
      refine q_getI E hH (ci := 7) rfl 11 (by decide) kF_X7_44 (fun _ _ _ => rfl) hk_17 dX7_without_106 ?_
      refine lv_imul hx hb dX7_without_109 ?_
      refine lv_iconst (v := 1) hx hb dX7_without_110 (by decide) ?_
      refine lv_iadd hx hb dX7_without_111 ?_
      obtain ⟨hz_22, hf⟩ := q_gdE hf
      refine q_iaload E hH hz_22 dX7_without_112 ?_
      obtain ⟨M_24, hw_23, hf⟩ := q_biE hf
      refine q_cV (As := [.int v2, .int (gI M_19 a_20 (((5 : Int32) * (gI M_19 h 11)) + (1 : Int32)).toNatClampNeg)]) (rest := []) (st1 := []) E hH (tX7_follows l D cA z0 h v2 (gI M_19 a_20 (((5 : Int32) * (gI M_19 h 11)) + (1 : Int32)).toNatClampNeg) Z M_19 M_24 hw_23) mw_X7_follows mi_X7_follows (ci := 7) rfl ms_X7_follows kM_X7_178 hk_17 hcc rfl rfl rfl hl.1 rfl rfl (Nat.le_of_ble_eq_true rfl) ⟨Nat.le_trans (by decide) hR.1, Nat.le_trans (by decide) hR.2⟩ dX7_without_113 (fun H locs hH => ?_)
      refine lv_iload hx hb dX7_without_116 (lv_at hl 5 rfl) ?_
      refine lv_aload_n hx hb dX7_without_118 rfl (lv_at hl 0 rfl) ?_
      refine lv_iload_n hx hb dX7_without_119 rfl (lv_at hl 2 rfl) ?_
      refine lv_iload_n hx hb dX7_without_120 rfl (lv_at hl 1 rfl) ?_
      obtain ⟨r_25, hw_26, hf⟩ := q_biE hf
      refine q_cV (As := [.int v2, .int v1]) (rest := [.int v5]) (st1 := [.int r_25, .int v5]) E hH (tX7_fitsAll l D cA z0 h v2 v1 Z M_24 r_25 hw_26) mw_X7_fitsAll mi_X7_fitsAll (ci := 7) rfl ms_X7_fitsAll kM_X7_181 hk_17 hcc rfl rfl rfl hl.1 rfl rfl (Nat.le_of_ble_eq_true rfl) ⟨Nat.le_trans (by decide) hR.1, Nat.le_trans (by decide) hR.2⟩ dX7_without_121 (fun H locs hH => ?_)
      refine lv_if_eq (tgt := 131) hx hb dX7_without_124 (by decide) (fun cc_31 => ?_) (fun cc_31 => ?_)
      · replace hf := q_ifT cc_31 hf
        clear cc_31
        refine lv_iconst (v := 0) hx hb dX7_without_131 (by decide) ?_
        exact bX7_without_132 E hR hcc h v1 v2 v3 v4 v6 v7 (0 : Int32) v5 Z M_24 _ _ _ _ hf hH (lv_sub hl [0, 1, 2, 3, 4, 6, 7] rfl) kb kx0
      · replace hf := q_ifF cc_31 hf
        clear cc_31
        refine lv_iconst (v := 1) hx hb dX7_without_127 (by decide) ?_
        refine lv_goto (tgt := 132) hx hb dX7_without_128 (by decide) ?_
        exact bX7_without_132 E hR hcc h v1 v2 v3 v4 v6 v7 (1 : Int32) v5 Z M_24 _ _ _ _ hf hH (lv_sub hl [0, 1, 2, 3, 4, 6, 7] rfl) kb kx0
def fX7_without_L69 (h : Nat) (v1 : Int32) (v2 : Int32) (v3 : Int32) (v4 : Int32) (v5 : Int32) (v6 : Int32) (Z : q_Z) (M : q_C) : Option ((Int32 × Int32 × q_C) ⊕ (Int32 × q_C)) :=
  q_gd (zK Z h == 17) <|
  if gI M h 10 ≤ v6 then
    some (Sum.inr (v5, M))
  else
    Option.bind (q_it (fun x => fX7_without_L81 h v1 v2 v3 v4 v6 x.1 x.2.1 Z x.2.2) q_FU (v5, (0 : Int32), M)) fun r_33 =>
    q_nm r_33.1 fun v5_35 =>
    q_nm r_33.2 fun M_36 =>
    q_nm (v6 + (1 : Int32)) fun v6_37 =>
    some (Sum.inl (v5_35, v6_37, M_36))
set_option maxHeartbeats 4000000 in
set_option maxRecDepth 100000 in
theorem lX7_without_69 {cells slots : Nat} {Q : State → Prop} (E : q_E p s m meth c cX7_without 8 RX7 (some .int) "without" D cA) (hR : 5 ≤ R.frames ∧ 142 ≤ R.locals) (hcc : cells ≤ R.cells ∧ slots ≤ R.slots)  (h : Nat) (v1 : Int32) (v2 : Int32) (v3 : Int32) (v4 : Int32) (Z : q_Z) : ∀ (n : Nat) (v5 : Int32) (v6 : Int32) (M : q_C) (H : Heap) (locs : List Loc) (ls : Array Slot) (r : (Int32 × q_C)), q_it (fun x => fX7_without_L69 h v1 v2 v3 v4 x.1 x.2.1 Z x.2.2) n (v5, v6, M) = some r → q_Hh D cA z0 s Z M H locs → lv_has ls 8 [(0, .ref h), (1, .int v1), (2, .int v2), (3, .int v3), (4, .int v4), (5, .int v5), (6, .int v6)] → (kx0 : ∀ (w5 : Int32) (M1 : q_C) (H : Heap) (locs : List Loc) (ls : Array Slot), (w5, M1) = r → q_Hh D cA z0 s Z M1 H locs → lv_has ls 8 [(0, .ref h), (2, .int v2), (3, .int v3), (4, .int v4), (5, .int w5)] → W p l e R s m args below meth c H locs cells slots Q (F0 m 147 ls [])) → W p l e R s m args below meth c H locs cells slots Q (F0 m 69 ls []) := by
  have hx := E.1
  have hb := E.2.1
  have hown := E.2.2.2.1
  have hT := E.2.2.2.2.2.2.2.1
  intro n
  induction n with
  | zero =>
    intro v5 v6 M H locs ls r hf
    cases hf
  | succ n ih =>
    intro v5 v6 M H locs ls r hf hH hl ky0
    obtain ⟨n1, o, hn, hf, ho⟩ := q_itE hf
    cases hn
    have hf : fX7_without_L69 h v1 v2 v3 v4 v5 v6 Z M = some o := hf
    have kb : ∀ (w5 : Int32) (w6 : Int32) (M1 : q_C) (H : Heap) (locs : List Loc) (ls : Array Slot), Sum.inl (w5, w6, M1) = o → q_Hh D cA z0 s Z M1 H locs → lv_has ls 8 [(0, .ref h), (1, .int v1), (2, .int v2), (3, .int v3), (4, .int v4), (5, .int w5), (6, .int w6)] → W p l e R s m args below meth c H locs cells slots Q (F0 m 69 ls []) := by
      intro w5 w6 M1 H locs ls e hH hl
      subst e
      exact ih w5 w6 M1 H locs ls r ho hH hl ky0
    have kx0 : ∀ (w5 : Int32) (M1 : q_C) (H : Heap) (locs : List Loc) (ls : Array Slot), Sum.inr (w5, M1) = o → q_Hh D cA z0 s Z M1 H locs → lv_has ls 8 [(0, .ref h), (2, .int v2), (3, .int v3), (4, .int v4), (5, .int w5)] → W p l e R s m args below meth c H locs cells slots Q (F0 m 147 ls []) := by
      intro w5 M1 H locs ls e hH hl
      subst e
      exact ky0 w5 M1 H locs ls ho hH hl
    unfold fX7_without_L69 at hf
    refine lv_iload hx hb dX7_without_69 (lv_at hl 6 rfl) ?_
    refine lv_aload_n hx hb dX7_without_71 rfl (lv_at hl 0 rfl) ?_
    obtain ⟨hk_16, hf⟩ := q_gdE hf
    have hk_16 := q_keq hk_16
    refine q_getI E hH (ci := 7) rfl 10 (by decide) kF_X7_41 (fun _ _ _ => rfl) hk_16 dX7_without_72 ?_
    refine lv_icmp_ge (tgt := 147) hx hb dX7_without_75 (by decide) (fun cc_40 => ?_) (fun cc_40 => ?_)
    · replace hf := q_ifT cc_40 hf
      clear cc_40
      cases hf
      exact kx0 v5 M _ _ _ rfl hH (lv_sub hl [0, 2, 3, 4, 5] rfl)
    · replace hf := q_ifF cc_40 hf
      clear cc_40
      refine lv_iconst (v := 0) hx hb dX7_without_78 (by decide) ?_
      refine lv_istore (lv' := [(7, .int (0 : Int32)), (0, .ref h), (1, .int v1), (2, .int v2), (3, .int v3), (4, .int v4), (5, .int v5), (6, .int v6)]) hx hb dX7_without_79 hl (by decide) rfl (fun ls hl => ?_)
      obtain ⟨r_33, hr_34, hf⟩ := q_biE hf
      refine lX7_without_81 E hR hcc h v1 v2 v3 v4 v6 Z q_FU v5 (0 : Int32) M _ _ _ r_33 hr_34 hH (lv_sub hl [1, 2, 3, 4, 5, 6, 7, 0] rfl) (fun v5_35 M_36 H locs ls he_39 hH hl => ?_)
      · subst he_39
        replace hf := q_nmE (x := v5_35) rfl hf
        replace hf := q_nmE (x := M_36) rfl hf
        obtain ⟨v6_37, hn_38⟩ : ∃ y : Int32, y = v6 + (1 : Int32) := ⟨_, rfl⟩
        replace hf := q_nmE hn_38 hf
        refine lv_iinc (v := v6_37) (lv' := [(6, .int v6_37), (0, .ref h), (1, .int v1), (2, .int v2), (3, .int v3), (4, .int v4), (5, .int v5_35)]) hx hb dX7_without_141 hl (k := 6) rfl (by rw [hn_38]; rfl) (by decide) rfl (fun ls hl => ?_)
        clear hn_38
        refine lv_goto (tgt := 69) hx hb dX7_without_144 (by decide) ?_
        cases hf
        exact kb v5_35 v6_37 M_36 _ _ _ rfl hH (lv_sub hl [1, 2, 3, 4, 5, 6, 0] rfl)
def fX7_without (h : Nat) (v1 : Int32) (Z : q_Z) (M : q_C) : Option (Int32 × q_C) :=
  q_gd (zK Z h == 17) <|
  if gI M h 11 = (-1 : Int32) then
    fX7_without_b32 h Z M
  else
    Option.bind (fX7_isSight h v1 Z M) fun r_2 =>
    if r_2 = 0 then
      fX7_without_b32 h Z M
    else
      if v1 = gI M h 11 then
        fX7_without_b32 h Z M
      else
        if v1 = gI M h 12 then
          fX7_without_b32 h Z M
        else
          Option.bind (gR M h 16) fun a_4 =>
          q_gd (q_ok Z a_4 1 ((2 : Int32) * (99 : Int32))) <|
          q_nm (gI M a_4 ((2 : Int32) * (99 : Int32)).toNatClampNeg) fun v3_7 =>
          Option.bind (gR M h 16) fun a_9 =>
          q_gd (q_ok Z a_9 1 (((2 : Int32) * (99 : Int32)) + (1 : Int32))) <|
          q_nm (gI M a_9 (((2 : Int32) * (99 : Int32)) + (1 : Int32)).toNatClampNeg) fun v4_12 =>
          Option.bind (fX7_holds h (0 : Int32) Z M) fun M_15 =>
          Option.bind (q_it (fun x => fX7_without_L69 h v1 (99 : Int32) v3_7 v4_12 x.1 x.2.1 Z x.2.2) q_FU ((0 : Int32), (0 : Int32), M_15)) fun r_41 =>
          q_nm r_41.1 fun v5_43 =>
          q_nm r_41.2 fun M_44 =>
          Option.bind (fX7_holds h (1 : Int32) Z M_44) fun M_46 =>
          Option.bind (gR M_46 h 16) fun a_47 =>
          q_gd (q_ok Z a_47 1 ((2 : Int32) * (99 : Int32))) <|
          q_nm (sI M_46 a_47 ((2 : Int32) * (99 : Int32)).toNatClampNeg v3_7) fun M_50 =>
          Option.bind (gR M_50 h 16) fun a_51 =>
          q_gd (q_ok Z a_51 1 (((2 : Int32) * (99 : Int32)) + (1 : Int32))) <|
          q_nm (sI M_50 a_51 (((2 : Int32) * (99 : Int32)) + (1 : Int32)).toNatClampNeg v4_12) fun M_54 =>
          some (v5_43, M_54)
set_option maxHeartbeats 4000000 in
set_option maxRecDepth 100000 in
theorem bX7_without_0 {cells slots : Nat} (E : q_E p s m meth c cX7_without 8 RX7 (some .int) "without" D cA) (hR : 5 ≤ R.frames ∧ 142 ≤ R.locals) (hcc : cells ≤ R.cells ∧ slots ≤ R.slots) (h : Nat) (v1 : Int32) (Z : q_Z) (M : q_C) (H : Heap) (locs : List Loc) (ls : Array Slot) (r : Int32) (M' : q_C) (hf : fX7_without h v1 Z M = some (r, M')) (hH : q_Hh D cA z0 s Z M H locs) (hl : lv_has ls 8 [(0, .ref h), (1, .int v1)])  : W p l e R s m args below meth c H locs cells slots (MQ below (q_Q D cA z0 (some (.int r)) Z M') args s cells slots (fun q => z0 ≤ q)) (F0 m 0 ls []) := by
  have hx := E.1
  have hb := E.2.1
  have hown := E.2.2.2.1
  have hT := E.2.2.2.2.2.2.2.1
  unfold fX7_without at hf
  refine lv_aload_n hx hb dX7_without_0 rfl (lv_at hl 0 rfl) ?_
  obtain ⟨hk_1, hf⟩ := q_gdE hf
  have hk_1 := q_keq hk_1
  refine q_getI E hH (ci := 7) rfl 11 (by decide) kF_X7_44 (fun _ _ _ => rfl) hk_1 dX7_without_1 ?_
  refine lv_iconst (v := -1) hx hb dX7_without_4 (by decide) ?_
  refine lv_icmp_eq (tgt := 32) hx hb dX7_without_5 (by decide) (fun cc_59 => ?_) (fun cc_59 => ?_)
  · replace hf := q_ifT cc_59 hf
    clear cc_59
    exact bX7_without_32 E hR hcc h Z M _ _ _ _ _ hf hH (lv_sub hl [] rfl)
  · replace hf := q_ifF cc_59 hf
    clear cc_59
    refine lv_aload_n hx hb dX7_without_8 rfl (lv_at hl 0 rfl) ?_
    refine lv_iload_n hx hb dX7_without_9 rfl (lv_at hl 1 rfl) ?_
    obtain ⟨r_2, hw_3, hf⟩ := q_biE hf
    refine q_cV (As := [.int v1]) (rest := []) (st1 := [.int r_2]) E hH (tX7_isSight l D cA z0 h v1 Z M r_2 hw_3) mw_X7_isSight mi_X7_isSight (ci := 7) rfl ms_X7_isSight kM_X7_114 hk_1 hcc rfl rfl rfl hl.1 rfl rfl (Nat.le_of_ble_eq_true rfl) ⟨Nat.le_trans (by decide) hR.1, Nat.le_trans (by decide) hR.2⟩ dX7_without_10 (fun H locs hH => ?_)
    refine lv_if_eq (tgt := 32) hx hb dX7_without_13 (by decide) (fun cc_58 => ?_) (fun cc_58 => ?_)
    · replace hf := q_ifT cc_58 hf
      clear cc_58
      exact bX7_without_32 E hR hcc h Z M _ _ _ _ _ hf hH (lv_sub hl [] rfl)
    · replace hf := q_ifF cc_58 hf
      clear cc_58
      refine lv_iload_n hx hb dX7_without_16 rfl (lv_at hl 1 rfl) ?_
      refine lv_aload_n hx hb dX7_without_17 rfl (lv_at hl 0 rfl) ?_
      refine q_getI E hH (ci := 7) rfl 11 (by decide) kF_X7_44 (fun _ _ _ => rfl) hk_1 dX7_without_18 ?_
      refine lv_icmp_eq (tgt := 32) hx hb dX7_without_21 (by decide) (fun cc_57 => ?_) (fun cc_57 => ?_)
      · replace hf := q_ifT cc_57 hf
        clear cc_57
        exact bX7_without_32 E hR hcc h Z M _ _ _ _ _ hf hH (lv_sub hl [] rfl)
      · replace hf := q_ifF cc_57 hf
        clear cc_57
        refine lv_iload_n hx hb dX7_without_24 rfl (lv_at hl 1 rfl) ?_
        refine lv_aload_n hx hb dX7_without_25 rfl (lv_at hl 0 rfl) ?_
        refine q_getI E hH (ci := 7) rfl 12 (by decide) kF_X7_47 (fun _ _ _ => rfl) hk_1 dX7_without_26 ?_
        refine lv_icmp_ne (tgt := 34) hx hb dX7_without_29 (by decide) (fun cc_56 => ?_) (fun cc_56 => ?_)
        · replace hf := q_ifF cc_56 hf
          clear cc_56
          refine lv_bipush (v := 99) hx hb dX7_without_34 (by decide) ?_
          refine lv_istore_n (lv' := [(2, .int (99 : Int32)), (0, .ref h), (1, .int v1)]) hx hb dX7_without_36 rfl hl (by decide) rfl (fun ls hl => ?_)
          refine lv_aload_n hx hb dX7_without_37 rfl (lv_at hl 1 rfl) ?_
          refine q_getR E hH (ci := 7) rfl 16 (by decide) kF_X7_59 (fun _ _ _ => rfl) hk_1 dX7_without_38 ?_
          obtain ⟨a_4, he_5, hf⟩ := q_biE hf
          rw [he_5]
          refine lv_iconst (v := 2) hx hb dX7_without_41 (by decide) ?_
          refine lv_iload_n hx hb dX7_without_42 rfl (lv_at hl 0 rfl) ?_
          refine lv_imul hx hb dX7_without_43 ?_
          obtain ⟨hz_6, hf⟩ := q_gdE hf
          refine q_iaload E hH hz_6 dX7_without_44 ?_
          refine lv_topi (fun v3_7 hn_8 => ?_)
          replace hf := q_nmE hn_8 hf
          clear hn_8
          refine lv_istore_n (lv' := [(3, .int v3_7), (2, .int (99 : Int32)), (0, .ref h), (1, .int v1)]) hx hb dX7_without_45 rfl hl (by decide) rfl (fun ls hl => ?_)
          refine lv_aload_n hx hb dX7_without_46 rfl (lv_at hl 2 rfl) ?_
          refine q_getR E hH (ci := 7) rfl 16 (by decide) kF_X7_59 (fun _ _ _ => rfl) hk_1 dX7_without_47 ?_
          obtain ⟨a_9, he_10, hf⟩ := q_biE hf
          rw [he_10]
          refine lv_iconst (v := 2) hx hb dX7_without_50 (by decide) ?_
          refine lv_iload_n hx hb dX7_without_51 rfl (lv_at hl 1 rfl) ?_
          refine lv_imul hx hb dX7_without_52 ?_
          refine lv_iconst (v := 1) hx hb dX7_without_53 (by decide) ?_
          refine lv_iadd hx hb dX7_without_54 ?_
          obtain ⟨hz_11, hf⟩ := q_gdE hf
          refine q_iaload E hH hz_11 dX7_without_55 ?_
          refine lv_topi (fun v4_12 hn_13 => ?_)
          replace hf := q_nmE hn_13 hf
          clear hn_13
          refine lv_istore (lv' := [(4, .int v4_12), (3, .int v3_7), (2, .int (99 : Int32)), (0, .ref h), (1, .int v1)]) hx hb dX7_without_56 hl (by decide) rfl (fun ls hl => ?_)
          refine lv_aload_n hx hb dX7_without_58 rfl (lv_at hl 3 rfl) ?_
          refine lv_iconst (v := 0) hx hb dX7_without_59 (by decide) ?_
          obtain ⟨M_15, hw_14, hf⟩ := q_biE hf
          refine q_cV (As := [.int (0 : Int32)]) (rest := []) (st1 := []) E hH (tX7_holds l D cA z0 h (0 : Int32) Z M M_15 hw_14) mw_X7_holds mi_X7_holds (ci := 7) rfl ms_X7_holds kM_X7_195 hk_1 hcc rfl rfl rfl hl.1 rfl rfl (Nat.le_of_ble_eq_true rfl) ⟨Nat.le_trans (by decide) hR.1, Nat.le_trans (by decide) hR.2⟩ dX7_without_60 (fun H locs hH => ?_)
          refine lv_iconst (v := 0) hx hb dX7_without_63 (by decide) ?_
          refine lv_istore (lv' := [(5, .int (0 : Int32)), (4, .int v4_12), (3, .int v3_7), (2, .int (99 : Int32)), (0, .ref h), (1, .int v1)]) hx hb dX7_without_64 hl (by decide) rfl (fun ls hl => ?_)
          refine lv_iconst (v := 0) hx hb dX7_without_66 (by decide) ?_
          refine lv_istore (lv' := [(6, .int (0 : Int32)), (5, .int (0 : Int32)), (4, .int v4_12), (3, .int v3_7), (2, .int (99 : Int32)), (0, .ref h), (1, .int v1)]) hx hb dX7_without_67 hl (by decide) rfl (fun ls hl => ?_)
          obtain ⟨r_41, hr_42, hf⟩ := q_biE hf
          refine lX7_without_69 E hR hcc h v1 (99 : Int32) v3_7 v4_12 Z q_FU (0 : Int32) (0 : Int32) M_15 _ _ _ r_41 hr_42 hH (lv_sub hl [5, 6, 4, 3, 2, 1, 0] rfl) (fun v5_43 M_44 H locs ls he_55 hH hl => ?_)
          · subst he_55
            replace hf := q_nmE (x := v5_43) rfl hf
            replace hf := q_nmE (x := M_44) rfl hf
            refine lv_aload_n hx hb dX7_without_147 rfl (lv_at hl 0 rfl) ?_
            refine lv_iconst (v := 1) hx hb dX7_without_148 (by decide) ?_
            obtain ⟨M_46, hw_45, hf⟩ := q_biE hf
            refine q_cV (As := [.int (1 : Int32)]) (rest := []) (st1 := []) E hH (tX7_holds l D cA z0 h (1 : Int32) Z M_44 M_46 hw_45) mw_X7_holds mi_X7_holds (ci := 7) rfl ms_X7_holds kM_X7_195 hk_1 hcc rfl rfl rfl hl.1 rfl rfl (Nat.le_of_ble_eq_true rfl) ⟨Nat.le_trans (by decide) hR.1, Nat.le_trans (by decide) hR.2⟩ dX7_without_149 (fun H locs hH => ?_)
            refine lv_aload_n hx hb dX7_without_152 rfl (lv_at hl 0 rfl) ?_
            refine q_getR E hH (ci := 7) rfl 16 (by decide) kF_X7_59 (fun _ _ _ => rfl) hk_1 dX7_without_153 ?_
            obtain ⟨a_47, he_48, hf⟩ := q_biE hf
            rw [he_48]
            refine lv_iconst (v := 2) hx hb dX7_without_156 (by decide) ?_
            refine lv_iload_n hx hb dX7_without_157 rfl (lv_at hl 1 rfl) ?_
            refine lv_imul hx hb dX7_without_158 ?_
            refine lv_iload_n hx hb dX7_without_159 rfl (lv_at hl 2 rfl) ?_
            obtain ⟨hz_49, hf⟩ := q_gdE hf
            refine q_iastore E hH hz_49 dX7_without_160 hf (fun M_50 H locs hH hf => ?_)
            refine lv_aload_n hx hb dX7_without_161 rfl (lv_at hl 0 rfl) ?_
            refine q_getR E hH (ci := 7) rfl 16 (by decide) kF_X7_59 (fun _ _ _ => rfl) hk_1 dX7_without_162 ?_
            obtain ⟨a_51, he_52, hf⟩ := q_biE hf
            rw [he_52]
            refine lv_iconst (v := 2) hx hb dX7_without_165 (by decide) ?_
            refine lv_iload_n hx hb dX7_without_166 rfl (lv_at hl 1 rfl) ?_
            refine lv_imul hx hb dX7_without_167 ?_
            refine lv_iconst (v := 1) hx hb dX7_without_168 (by decide) ?_
            refine lv_iadd hx hb dX7_without_169 ?_
            refine lv_iload hx hb dX7_without_170 (lv_at hl 3 rfl) ?_
            obtain ⟨hz_53, hf⟩ := q_gdE hf
            refine q_iastore E hH hz_53 dX7_without_172 hf (fun M_54 H locs hH hf => ?_)
            refine lv_iload hx hb dX7_without_173 (lv_at hl 4 rfl) ?_
            cases hf
            exact q_iret E hH dX7_without_175
        · replace hf := q_ifT cc_56 hf
          clear cc_56
          exact bX7_without_32 E hR hcc h Z M _ _ _ _ _ hf hH (lv_sub hl [] rfl)
set_option maxRecDepth 100000 in
theorem tX7_without (l : Launch) (D : va_G) (cA : Nat → ClassId) (z0 : Nat) (h : Nat) (v1 : Int32) (Z : q_Z) (M : q_C) (r : Int32) (M' : q_C) (hf : fX7_without h v1 Z M = some (r, M')) : q_Ct l D cA z0 yX7_without cX7_without 8 (some .int) 5 142 [.ref h, .int v1] Z M (some (.int r)) Z M' 0 0 := by
  (refine q_start (plainFor_of_name (by decide)) (Nat.le_of_ble_eq_true rfl) (fun p e s m below meth c H ls E hH hl => ?_); exact bX7_without_0 E ⟨Nat.le_refl _, Nat.le_refl _⟩ ⟨Nat.le_refl _, Nat.le_refl _⟩ h _ Z M H [] ls r M' hf hH hl)
def fX7_isSome_b30 (h : Nat) (v1 : Int32) (v3 : Int32) (s0 : Int32) (Z : q_Z) (M : q_C) : Option ((Int32 × Int32) ⊕ Int32) :=
  q_nm (v3 + (1 : Int32)) fun v3_2 =>
  some (Sum.inl (s0, v3_2))
set_option maxHeartbeats 4000000 in
set_option maxRecDepth 100000 in
theorem bX7_isSome_30 {cells slots : Nat} {Q : State → Prop} (E : q_E p s m meth c cX7_isSome 4 RX7 (some .boolean) "isSome" D cA) (hR : 1 ≤ R.frames ∧ 22 ≤ R.locals) (hcc : cells ≤ R.cells ∧ slots ≤ R.slots) (h : Nat) (v1 : Int32) (v3 : Int32) (s0 : Int32) (Z : q_Z) (M : q_C) (H : Heap) (locs : List Loc) (ls : Array Slot) (o : (Int32 × Int32) ⊕ Int32) (hf : fX7_isSome_b30 h v1 v3 s0 Z M = some o) (hH : q_Hh D cA z0 s Z M H locs) (hl : lv_has ls 4 [(0, .ref h), (1, .int v1), (3, .int v3)]) (kb : ∀ (w2 : Int32) (w3 : Int32) (H : Heap) (locs : List Loc) (ls : Array Slot), Sum.inl (w2, w3) = o → q_Hh D cA z0 s Z M H locs → lv_has ls 4 [(0, .ref h), (1, .int v1), (2, .int w2), (3, .int w3)] → W p l e R s m args below meth c H locs cells slots Q (F0 m 4 ls [])) (kx0 : ∀ (w2 : Int32) (H : Heap) (locs : List Loc) (ls : Array Slot), Sum.inr w2 = o → q_Hh D cA z0 s Z M H locs → lv_has ls 4 [(2, .int w2)] → W p l e R s m args below meth c H locs cells slots Q (F0 m 37 ls [])) : W p l e R s m args below meth c H locs cells slots Q (F0 m 30 ls [.int s0]) := by
  have hx := E.1
  have hb := E.2.1
  have hown := E.2.2.2.1
  have hT := E.2.2.2.2.2.2.2.1
  unfold fX7_isSome_b30 at hf
  refine lv_istore_n (lv' := [(2, .int s0), (0, .ref h), (1, .int v1), (3, .int v3)]) hx hb dX7_isSome_30 rfl hl (by decide) rfl (fun ls hl => ?_)
  obtain ⟨v3_2, hn_3⟩ : ∃ y : Int32, y = v3 + (1 : Int32) := ⟨_, rfl⟩
  replace hf := q_nmE hn_3 hf
  refine lv_iinc (v := v3_2) (lv' := [(3, .int v3_2), (2, .int s0), (0, .ref h), (1, .int v1)]) hx hb dX7_isSome_31 hl (k := 3) rfl (by rw [hn_3]; rfl) (by decide) rfl (fun ls hl => ?_)
  clear hn_3
  refine lv_goto (tgt := 4) hx hb dX7_isSome_34 (by decide) ?_
  cases hf
  exact kb s0 v3_2 _ _ _ rfl hH (lv_sub hl [2, 3, 1, 0] rfl)
def fX7_isSome_b25 (h : Nat) (v1 : Int32) (v3 : Int32) (Z : q_Z) (M : q_C) : Option ((Int32 × Int32) ⊕ Int32) :=
  fX7_isSome_b30 h v1 v3 (1 : Int32) Z M
set_option maxHeartbeats 4000000 in
set_option maxRecDepth 100000 in
theorem bX7_isSome_25 {cells slots : Nat} {Q : State → Prop} (E : q_E p s m meth c cX7_isSome 4 RX7 (some .boolean) "isSome" D cA) (hR : 1 ≤ R.frames ∧ 22 ≤ R.locals) (hcc : cells ≤ R.cells ∧ slots ≤ R.slots) (h : Nat) (v1 : Int32) (v3 : Int32) (Z : q_Z) (M : q_C) (H : Heap) (locs : List Loc) (ls : Array Slot) (o : (Int32 × Int32) ⊕ Int32) (hf : fX7_isSome_b25 h v1 v3 Z M = some o) (hH : q_Hh D cA z0 s Z M H locs) (hl : lv_has ls 4 [(0, .ref h), (1, .int v1), (3, .int v3)]) (kb : ∀ (w2 : Int32) (w3 : Int32) (H : Heap) (locs : List Loc) (ls : Array Slot), Sum.inl (w2, w3) = o → q_Hh D cA z0 s Z M H locs → lv_has ls 4 [(0, .ref h), (1, .int v1), (2, .int w2), (3, .int w3)] → W p l e R s m args below meth c H locs cells slots Q (F0 m 4 ls [])) (kx0 : ∀ (w2 : Int32) (H : Heap) (locs : List Loc) (ls : Array Slot), Sum.inr w2 = o → q_Hh D cA z0 s Z M H locs → lv_has ls 4 [(2, .int w2)] → W p l e R s m args below meth c H locs cells slots Q (F0 m 37 ls [])) : W p l e R s m args below meth c H locs cells slots Q (F0 m 25 ls []) := by
  have hx := E.1
  have hb := E.2.1
  have hown := E.2.2.2.1
  have hT := E.2.2.2.2.2.2.2.1
  unfold fX7_isSome_b25 at hf
  refine lv_iconst (v := 1) hx hb dX7_isSome_25 (by decide) ?_
  refine lv_goto (tgt := 30) hx hb dX7_isSome_26 (by decide) ?_
  exact bX7_isSome_30 E hR hcc h v1 v3 (1 : Int32) Z M _ _ _ _ hf hH (lv_sub hl [0, 1, 2] rfl) kb kx0
def fX7_isSome_L4 (h : Nat) (v1 : Int32) (v2 : Int32) (v3 : Int32) (Z : q_Z) (M : q_C) : Option ((Int32 × Int32) ⊕ Int32) :=
  q_gd (zK Z h == 17) <|
  if gI M h 13 ≤ v3 then
    some (Sum.inr v2)
  else
    if v2 = 0 then
      Option.bind (fX7_isThere h v3 v1 Z M) fun r_4 =>
      if r_4 = 0 then
        fX7_isSome_b30 h v1 v3 (0 : Int32) Z M
      else
        fX7_isSome_b25 h v1 v3 Z M
    else
      fX7_isSome_b25 h v1 v3 Z M
set_option maxHeartbeats 4000000 in
set_option maxRecDepth 100000 in
theorem lX7_isSome_4 {cells slots : Nat} {Q : State → Prop} (E : q_E p s m meth c cX7_isSome 4 RX7 (some .boolean) "isSome" D cA) (hR : 1 ≤ R.frames ∧ 22 ≤ R.locals) (hcc : cells ≤ R.cells ∧ slots ≤ R.slots)  (h : Nat) (v1 : Int32) (Z : q_Z) (M : q_C) : ∀ (n : Nat) (v2 : Int32) (v3 : Int32) (H : Heap) (locs : List Loc) (ls : Array Slot) (r : Int32), q_it (fun x => fX7_isSome_L4 h v1 x.1 x.2 Z M) n (v2, v3) = some r → q_Hh D cA z0 s Z M H locs → lv_has ls 4 [(0, .ref h), (1, .int v1), (2, .int v2), (3, .int v3)] → (kx0 : ∀ (w2 : Int32) (H : Heap) (locs : List Loc) (ls : Array Slot), w2 = r → q_Hh D cA z0 s Z M H locs → lv_has ls 4 [(2, .int w2)] → W p l e R s m args below meth c H locs cells slots Q (F0 m 37 ls [])) → W p l e R s m args below meth c H locs cells slots Q (F0 m 4 ls []) := by
  have hx := E.1
  have hb := E.2.1
  have hown := E.2.2.2.1
  have hT := E.2.2.2.2.2.2.2.1
  intro n
  induction n with
  | zero =>
    intro v2 v3 H locs ls r hf
    cases hf
  | succ n ih =>
    intro v2 v3 H locs ls r hf hH hl ky0
    obtain ⟨n1, o, hn, hf, ho⟩ := q_itE hf
    cases hn
    have hf : fX7_isSome_L4 h v1 v2 v3 Z M = some o := hf
    have kb : ∀ (w2 : Int32) (w3 : Int32) (H : Heap) (locs : List Loc) (ls : Array Slot), Sum.inl (w2, w3) = o → q_Hh D cA z0 s Z M H locs → lv_has ls 4 [(0, .ref h), (1, .int v1), (2, .int w2), (3, .int w3)] → W p l e R s m args below meth c H locs cells slots Q (F0 m 4 ls []) := by
      intro w2 w3 H locs ls e hH hl
      subst e
      exact ih w2 w3 H locs ls r ho hH hl ky0
    have kx0 : ∀ (w2 : Int32) (H : Heap) (locs : List Loc) (ls : Array Slot), Sum.inr w2 = o → q_Hh D cA z0 s Z M H locs → lv_has ls 4 [(2, .int w2)] → W p l e R s m args below meth c H locs cells slots Q (F0 m 37 ls []) := by
      intro w2 H locs ls e hH hl
      subst e
      exact ky0 w2 H locs ls ho hH hl
    unfold fX7_isSome_L4 at hf
    refine lv_iload_n hx hb dX7_isSome_4 rfl (lv_at hl 3 rfl) ?_
    refine lv_aload_n hx hb dX7_isSome_5 rfl (lv_at hl 0 rfl) ?_
    obtain ⟨hk_1, hf⟩ := q_gdE hf
    have hk_1 := q_keq hk_1
    refine q_getI E hH (ci := 7) rfl 13 (by decide) kF_X7_50 (fun _ _ _ => rfl) hk_1 dX7_isSome_6 ?_
    refine lv_icmp_ge (tgt := 37) hx hb dX7_isSome_9 (by decide) (fun cc_8 => ?_) (fun cc_8 => ?_)
    · replace hf := q_ifT cc_8 hf
      clear cc_8
      cases hf
      exact kx0 v2 _ _ _ rfl hH (lv_sub hl [2] rfl)
    · replace hf := q_ifF cc_8 hf
      clear cc_8
      refine lv_iload_n hx hb dX7_isSome_12 rfl (lv_at hl 2 rfl) ?_
      refine lv_if_ne (tgt := 25) hx hb dX7_isSome_13 (by decide) (fun cc_7 => ?_) (fun cc_7 => ?_)
      · replace hf := q_ifF cc_7 hf
        clear cc_7
        exact bX7_isSome_25 E hR hcc h v1 v3 Z M _ _ _ _ hf hH (lv_sub hl [0, 1, 3] rfl) kb kx0
      · replace hf := q_ifT cc_7 hf
        clear cc_7
        refine lv_aload_n hx hb dX7_isSome_16 rfl (lv_at hl 0 rfl) ?_
        refine lv_iload_n hx hb dX7_isSome_17 rfl (lv_at hl 3 rfl) ?_
        refine lv_iload_n hx hb dX7_isSome_18 rfl (lv_at hl 1 rfl) ?_
        obtain ⟨r_4, hw_5, hf⟩ := q_biE hf
        refine q_cV (As := [.int v3, .int v1]) (rest := []) (st1 := [.int r_4]) E hH (tX7_isThere l D cA z0 h v3 v1 Z M r_4 hw_5) mw_X7_isThere mi_X7_isThere (ci := 7) rfl ms_X7_isThere kM_X7_165 hk_1 hcc rfl rfl rfl hl.1 rfl rfl (Nat.le_of_ble_eq_true rfl) ⟨Nat.le_trans (by decide) hR.1, Nat.le_trans (by decide) hR.2⟩ dX7_isSome_19 (fun H locs hH => ?_)
        refine lv_if_eq (tgt := 29) hx hb dX7_isSome_22 (by decide) (fun cc_6 => ?_) (fun cc_6 => ?_)
        · replace hf := q_ifT cc_6 hf
          clear cc_6
          refine lv_iconst (v := 0) hx hb dX7_isSome_29 (by decide) ?_
          exact bX7_isSome_30 E hR hcc h v1 v3 (0 : Int32) Z M _ _ _ _ hf hH (lv_sub hl [0, 1, 3] rfl) kb kx0
        · replace hf := q_ifF cc_6 hf
          clear cc_6
          exact bX7_isSome_25 E hR hcc h v1 v3 Z M _ _ _ _ hf hH (lv_sub hl [0, 1, 3] rfl) kb kx0
def fX7_isSome (h : Nat) (v1 : Int32) (Z : q_Z) (M : q_C) : Option (Int32) :=
  Option.bind (q_it (fun x => fX7_isSome_L4 h v1 x.1 x.2 Z M) q_FU ((0 : Int32), (0 : Int32))) fun r_9 =>
  q_nm r_9 fun v2_11 =>
  q_gd (decide (v2_11 = 0) || decide (v2_11 = 1)) <|
  some v2_11
set_option maxHeartbeats 4000000 in
set_option maxRecDepth 100000 in
theorem bX7_isSome_0 {cells slots : Nat} (E : q_E p s m meth c cX7_isSome 4 RX7 (some .boolean) "isSome" D cA) (hR : 1 ≤ R.frames ∧ 22 ≤ R.locals) (hcc : cells ≤ R.cells ∧ slots ≤ R.slots) (h : Nat) (v1 : Int32) (Z : q_Z) (M : q_C) (H : Heap) (locs : List Loc) (ls : Array Slot) (r : Int32) (hf : fX7_isSome h v1 Z M = some r) (hH : q_Hh D cA z0 s Z M H locs) (hl : lv_has ls 4 [(0, .ref h), (1, .int v1)])  : W p l e R s m args below meth c H locs cells slots (MQ below (q_Q D cA z0 (some (.int r)) Z M) args s cells slots (fun q => z0 ≤ q)) (F0 m 0 ls []) := by
  have hx := E.1
  have hb := E.2.1
  have hown := E.2.2.2.1
  have hT := E.2.2.2.2.2.2.2.1
  unfold fX7_isSome at hf
  refine lv_iconst (v := 0) hx hb dX7_isSome_0 (by decide) ?_
  refine lv_istore_n (lv' := [(2, .int (0 : Int32)), (0, .ref h), (1, .int v1)]) hx hb dX7_isSome_1 rfl hl (by decide) rfl (fun ls hl => ?_)
  refine lv_iconst (v := 0) hx hb dX7_isSome_2 (by decide) ?_
  refine lv_istore_n (lv' := [(3, .int (0 : Int32)), (2, .int (0 : Int32)), (0, .ref h), (1, .int v1)]) hx hb dX7_isSome_3 rfl hl (by decide) rfl (fun ls hl => ?_)
  obtain ⟨r_9, hr_10, hf⟩ := q_biE hf
  refine lX7_isSome_4 E hR hcc h v1 Z M q_FU (0 : Int32) (0 : Int32) _ _ _ r_9 hr_10 hH (lv_sub hl [2, 3, 1, 0] rfl) (fun v2_11 H locs ls he_13 hH hl => ?_)
  · subst he_13
    replace hf := q_nmE (x := v2_11) rfl hf
    refine lv_iload_n hx hb dX7_isSome_37 rfl (lv_at hl 0 rfl) ?_
    obtain ⟨hz_12, hf⟩ := q_gdE hf
    cases hf
    exact q_zret E hH hz_12 dX7_isSome_38
set_option maxRecDepth 100000 in
theorem tX7_isSome (l : Launch) (D : va_G) (cA : Nat → ClassId) (z0 : Nat) (h : Nat) (v1 : Int32) (Z : q_Z) (M : q_C) (r : Int32) (hf : fX7_isSome h v1 Z M = some r) : q_Ct l D cA z0 yX7_isSome cX7_isSome 4 (some .boolean) 1 22 [.ref h, .int v1] Z M (some (.int r)) Z M 0 0 := by
  (refine q_start (plainFor_of_name (by decide)) (Nat.le_of_ble_eq_true rfl) (fun p e s m below meth c H ls E hH hl => ?_); exact bX7_isSome_0 E ⟨Nat.le_refl _, Nat.le_refl _⟩ ⟨Nat.le_refl _, Nat.le_refl _⟩ h _ Z M H [] ls r hf hH hl)
def fX7_seenAt_b15 (h : Nat) (v1 : Int32) (v2 : Int32) (v3 : Int32) (s0 : Option Nat) (Z : q_Z) (M : q_C) : Option (Int64) :=
  Option.bind s0 fun a_4 =>
  q_gd (q_ok Z a_4 2 ((((601 : Int32) * v1) + v2) + (300 : Int32))) <|
  q_gd (zK Z h == 17) <|
  Option.bind (fX7_then h (0 : Int32) v2 v3 Z M) fun r_8 =>
  some ((gJ M a_4 ((((601 : Int32) * v1) + v2) + (300 : Int32)).toNatClampNeg) - r_8.toInt64)
set_option maxHeartbeats 4000000 in
set_option maxRecDepth 100000 in
theorem bX7_seenAt_15 {cells slots : Nat} (E : q_E p s m meth c cX7_seenAt 4 RX7 (some .long) "seenAt" D cA) (hR : 2 ≤ R.frames ∧ 48 ≤ R.locals) (hcc : cells ≤ R.cells ∧ slots ≤ R.slots) (h : Nat) (v1 : Int32) (v2 : Int32) (v3 : Int32) (s0 : Option Nat) (Z : q_Z) (M : q_C) (H : Heap) (locs : List Loc) (ls : Array Slot) (r : Int64) (hf : fX7_seenAt_b15 h v1 v2 v3 s0 Z M = some r) (hH : q_Hh D cA z0 s Z M H locs) (hl : lv_has ls 4 [(0, .ref h), (1, .int v1), (2, .int v2), (3, .int v3)])  : W p l e R s m args below meth c H locs cells slots (MQ below (q_Q D cA z0 (some (.long r)) Z M) args s cells slots (fun q => z0 ≤ q)) (F0 m 15 ls [va_rf s0]) := by
  have hx := E.1
  have hb := E.2.1
  have hown := E.2.2.2.1
  have hT := E.2.2.2.2.2.2.2.1
  unfold fX7_seenAt_b15 at hf
  refine lv_sipush (v := 601) hx hb dX7_seenAt_15 (by decide) ?_
  refine lv_iload_n hx hb dX7_seenAt_18 rfl (lv_at hl 1 rfl) ?_
  refine lv_imul hx hb dX7_seenAt_19 ?_
  refine lv_iload_n hx hb dX7_seenAt_20 rfl (lv_at hl 2 rfl) ?_
  refine lv_iadd hx hb dX7_seenAt_21 ?_
  refine lv_sipush (v := 300) hx hb dX7_seenAt_22 (by decide) ?_
  refine lv_iadd hx hb dX7_seenAt_25 ?_
  obtain ⟨a_4, he_5, hf⟩ := q_biE hf
  subst he_5
  obtain ⟨hz_6, hf⟩ := q_gdE hf
  refine q_laload E hH hz_6 dX7_seenAt_26 ?_
  refine lv_aload_n hx hb dX7_seenAt_27 rfl (lv_at hl 0 rfl) ?_
  refine lv_iconst (v := 0) hx hb dX7_seenAt_28 (by decide) ?_
  refine lv_iload_n hx hb dX7_seenAt_29 rfl (lv_at hl 2 rfl) ?_
  refine lv_iload_n hx hb dX7_seenAt_30 rfl (lv_at hl 3 rfl) ?_
  obtain ⟨hk_7, hf⟩ := q_gdE hf
  have hk_7 := q_keq hk_7
  obtain ⟨r_8, hw_9, hf⟩ := q_biE hf
  refine q_cV (As := [.int (0 : Int32), .int v2, .int v3]) (rest := [.long (gJ M a_4 ((((601 : Int32) * v1) + v2) + (300 : Int32)).toNatClampNeg)]) (st1 := [.int r_8, .long (gJ M a_4 ((((601 : Int32) * v1) + v2) + (300 : Int32)).toNatClampNeg)]) E hH (tX7_then l D cA z0 h (0 : Int32) v2 v3 Z M r_8 hw_9) mw_X7_then mi_X7_then (ci := 7) rfl ms_X7_then kM_X7_188 hk_7 hcc rfl rfl rfl hl.1 rfl rfl (Nat.le_of_ble_eq_true rfl) ⟨Nat.le_trans (by decide) hR.1, Nat.le_trans (by decide) hR.2⟩ dX7_seenAt_31 (fun H locs hH => ?_)
  refine lv_i2l hx hb dX7_seenAt_34 rfl ?_
  refine lv_lsub hx hb dX7_seenAt_35 ?_
  cases hf
  exact q_lret E hH dX7_seenAt_36
def fX7_seenAt (h : Nat) (v1 : Int32) (v2 : Int32) (v3 : Int32) (Z : q_Z) (M : q_C) : Option (Int64) :=
  if v3 = 0 then
    q_gd (zK Z h == 17) <|
    Option.bind (gR M h 17) fun a_11 =>
    fX7_seenAt_b15 h v1 v2 v3 (some a_11) Z M
  else
    q_gd (zK Z h == 17) <|
    Option.bind (gR M h 18) fun a_2 =>
    fX7_seenAt_b15 h v1 v2 v3 (some a_2) Z M
set_option maxHeartbeats 4000000 in
set_option maxRecDepth 100000 in
theorem bX7_seenAt_0 {cells slots : Nat} (E : q_E p s m meth c cX7_seenAt 4 RX7 (some .long) "seenAt" D cA) (hR : 2 ≤ R.frames ∧ 48 ≤ R.locals) (hcc : cells ≤ R.cells ∧ slots ≤ R.slots) (h : Nat) (v1 : Int32) (v2 : Int32) (v3 : Int32) (Z : q_Z) (M : q_C) (H : Heap) (locs : List Loc) (ls : Array Slot) (r : Int64) (hf : fX7_seenAt h v1 v2 v3 Z M = some r) (hH : q_Hh D cA z0 s Z M H locs) (hl : lv_has ls 4 [(0, .ref h), (1, .int v1), (2, .int v2), (3, .int v3)])  : W p l e R s m args below meth c H locs cells slots (MQ below (q_Q D cA z0 (some (.long r)) Z M) args s cells slots (fun q => z0 ≤ q)) (F0 m 0 ls []) := by
  have hx := E.1
  have hb := E.2.1
  have hown := E.2.2.2.1
  have hT := E.2.2.2.2.2.2.2.1
  unfold fX7_seenAt at hf
  refine lv_iload_n hx hb dX7_seenAt_0 rfl (lv_at hl 3 rfl) ?_
  refine lv_if_ne (tgt := 11) hx hb dX7_seenAt_1 (by decide) (fun cc_13 => ?_) (fun cc_13 => ?_)
  · replace hf := q_ifF cc_13 hf
    clear cc_13
    refine lv_aload_n hx hb dX7_seenAt_11 rfl (lv_at hl 0 rfl) ?_
    obtain ⟨hk_1, hf⟩ := q_gdE hf
    have hk_1 := q_keq hk_1
    refine q_getR E hH (ci := 7) rfl 18 (by decide) kF_X7_67 (fun _ _ _ => rfl) hk_1 dX7_seenAt_12 ?_
    obtain ⟨a_2, he_3, hf⟩ := q_biE hf
    rw [he_3]
    exact bX7_seenAt_15 E hR hcc h v1 v2 v3 (some a_2) Z M _ _ _ _ hf hH (lv_sub hl [0, 1, 2, 3] rfl)
  · replace hf := q_ifT cc_13 hf
    clear cc_13
    refine lv_aload_n hx hb dX7_seenAt_4 rfl (lv_at hl 0 rfl) ?_
    obtain ⟨hk_10, hf⟩ := q_gdE hf
    have hk_10 := q_keq hk_10
    refine q_getR E hH (ci := 7) rfl 17 (by decide) kF_X7_63 (fun _ _ _ => rfl) hk_10 dX7_seenAt_5 ?_
    obtain ⟨a_11, he_12, hf⟩ := q_biE hf
    rw [he_12]
    refine lv_goto (tgt := 15) hx hb dX7_seenAt_8 (by decide) ?_
    exact bX7_seenAt_15 E hR hcc h v1 v2 v3 (some a_11) Z M _ _ _ _ hf hH (lv_sub hl [0, 1, 2, 3] rfl)
set_option maxRecDepth 100000 in
theorem tX7_seenAt (l : Launch) (D : va_G) (cA : Nat → ClassId) (z0 : Nat) (h : Nat) (v1 : Int32) (v2 : Int32) (v3 : Int32) (Z : q_Z) (M : q_C) (r : Int64) (hf : fX7_seenAt h v1 v2 v3 Z M = some r) : q_Ct l D cA z0 yX7_seenAt cX7_seenAt 4 (some .long) 2 48 [.ref h, .int v1, .int v2, .int v3] Z M (some (.long r)) Z M 0 0 := by
  (refine q_start (plainFor_of_name (by decide)) (Nat.le_of_ble_eq_true rfl) (fun p e s m below meth c H ls E hH hl => ?_); exact bX7_seenAt_0 E ⟨Nat.le_refl _, Nat.le_refl _⟩ ⟨Nat.le_refl _, Nat.le_refl _⟩ h _ _ _ Z M H [] ls r hf hH hl)
def fX7_turn (h : Nat) (v1 : Int32) (v2 : Int32) (v3 : Int32) (Z : q_Z) (M : q_C) : Option (Int64) :=
  q_gd (zK Z h == 17) <|
  Option.bind (fX7_seenAt h v1 v3 (0 : Int32) Z M) fun r_2 =>
  Option.bind (fX7_seenAt h v2 v3 (1 : Int32) Z M) fun r_4 =>
  Option.bind (fX7_seenAt h v1 v3 (1 : Int32) Z M) fun r_6 =>
  Option.bind (fX7_seenAt h v2 v3 (0 : Int32) Z M) fun r_8 =>
  some ((r_2 * r_4) - (r_6 * r_8))
set_option maxHeartbeats 4000000 in
set_option maxRecDepth 100000 in
theorem bX7_turn_0 {cells slots : Nat} (E : q_E p s m meth c cX7_turn 4 RX7 (some .long) "turn" D cA) (hR : 3 ≤ R.frames ∧ 71 ≤ R.locals) (hcc : cells ≤ R.cells ∧ slots ≤ R.slots) (h : Nat) (v1 : Int32) (v2 : Int32) (v3 : Int32) (Z : q_Z) (M : q_C) (H : Heap) (locs : List Loc) (ls : Array Slot) (r : Int64) (hf : fX7_turn h v1 v2 v3 Z M = some r) (hH : q_Hh D cA z0 s Z M H locs) (hl : lv_has ls 4 [(0, .ref h), (1, .int v1), (2, .int v2), (3, .int v3)])  : W p l e R s m args below meth c H locs cells slots (MQ below (q_Q D cA z0 (some (.long r)) Z M) args s cells slots (fun q => z0 ≤ q)) (F0 m 0 ls []) := by
  have hx := E.1
  have hb := E.2.1
  have hown := E.2.2.2.1
  have hT := E.2.2.2.2.2.2.2.1
  unfold fX7_turn at hf
  refine lv_aload_n hx hb dX7_turn_0 rfl (lv_at hl 0 rfl) ?_
  refine lv_iload_n hx hb dX7_turn_1 rfl (lv_at hl 1 rfl) ?_
  refine lv_iload_n hx hb dX7_turn_2 rfl (lv_at hl 3 rfl) ?_
  refine lv_iconst (v := 0) hx hb dX7_turn_3 (by decide) ?_
  obtain ⟨hk_1, hf⟩ := q_gdE hf
  have hk_1 := q_keq hk_1
  obtain ⟨r_2, hw_3, hf⟩ := q_biE hf
  refine q_cV (As := [.int v1, .int v3, .int (0 : Int32)]) (rest := []) (st1 := [.long r_2]) E hH (tX7_seenAt l D cA z0 h v1 v3 (0 : Int32) Z M r_2 hw_3) mw_X7_seenAt mi_X7_seenAt (ci := 7) rfl ms_X7_seenAt kM_X7_199 hk_1 hcc rfl rfl rfl hl.1 rfl rfl (Nat.le_of_ble_eq_true rfl) ⟨Nat.le_trans (by decide) hR.1, Nat.le_trans (by decide) hR.2⟩ dX7_turn_4 (fun H locs hH => ?_)
  refine lv_aload_n hx hb dX7_turn_7 rfl (lv_at hl 0 rfl) ?_
  refine lv_iload_n hx hb dX7_turn_8 rfl (lv_at hl 2 rfl) ?_
  refine lv_iload_n hx hb dX7_turn_9 rfl (lv_at hl 3 rfl) ?_
  refine lv_iconst (v := 1) hx hb dX7_turn_10 (by decide) ?_
  obtain ⟨r_4, hw_5, hf⟩ := q_biE hf
  refine q_cV (As := [.int v2, .int v3, .int (1 : Int32)]) (rest := [.long r_2]) (st1 := [.long r_4, .long r_2]) E hH (tX7_seenAt l D cA z0 h v2 v3 (1 : Int32) Z M r_4 hw_5) mw_X7_seenAt mi_X7_seenAt (ci := 7) rfl ms_X7_seenAt kM_X7_199 hk_1 hcc rfl rfl rfl hl.1 rfl rfl (Nat.le_of_ble_eq_true rfl) ⟨Nat.le_trans (by decide) hR.1, Nat.le_trans (by decide) hR.2⟩ dX7_turn_11 (fun H locs hH => ?_)
  refine lv_lmul hx hb dX7_turn_14 ?_
  refine lv_aload_n hx hb dX7_turn_15 rfl (lv_at hl 0 rfl) ?_
  refine lv_iload_n hx hb dX7_turn_16 rfl (lv_at hl 1 rfl) ?_
  refine lv_iload_n hx hb dX7_turn_17 rfl (lv_at hl 3 rfl) ?_
  refine lv_iconst (v := 1) hx hb dX7_turn_18 (by decide) ?_
  obtain ⟨r_6, hw_7, hf⟩ := q_biE hf
  refine q_cV (As := [.int v1, .int v3, .int (1 : Int32)]) (rest := [.long (r_2 * r_4)]) (st1 := [.long r_6, .long (r_2 * r_4)]) E hH (tX7_seenAt l D cA z0 h v1 v3 (1 : Int32) Z M r_6 hw_7) mw_X7_seenAt mi_X7_seenAt (ci := 7) rfl ms_X7_seenAt kM_X7_199 hk_1 hcc rfl rfl rfl hl.1 rfl rfl (Nat.le_of_ble_eq_true rfl) ⟨Nat.le_trans (by decide) hR.1, Nat.le_trans (by decide) hR.2⟩ dX7_turn_19 (fun H locs hH => ?_)
  refine lv_aload_n hx hb dX7_turn_22 rfl (lv_at hl 0 rfl) ?_
  refine lv_iload_n hx hb dX7_turn_23 rfl (lv_at hl 2 rfl) ?_
  refine lv_iload_n hx hb dX7_turn_24 rfl (lv_at hl 3 rfl) ?_
  refine lv_iconst (v := 0) hx hb dX7_turn_25 (by decide) ?_
  obtain ⟨r_8, hw_9, hf⟩ := q_biE hf
  refine q_cV (As := [.int v2, .int v3, .int (0 : Int32)]) (rest := [.long r_6, .long (r_2 * r_4)]) (st1 := [.long r_8, .long r_6, .long (r_2 * r_4)]) E hH (tX7_seenAt l D cA z0 h v2 v3 (0 : Int32) Z M r_8 hw_9) mw_X7_seenAt mi_X7_seenAt (ci := 7) rfl ms_X7_seenAt kM_X7_199 hk_1 hcc rfl rfl rfl hl.1 rfl rfl (Nat.le_of_ble_eq_true rfl) ⟨Nat.le_trans (by decide) hR.1, Nat.le_trans (by decide) hR.2⟩ dX7_turn_26 (fun H locs hH => ?_)
  refine lv_lmul hx hb dX7_turn_29 ?_
  refine lv_lsub hx hb dX7_turn_30 ?_
  cases hf
  exact q_lret E hH dX7_turn_31
set_option maxRecDepth 100000 in
theorem tX7_turn (l : Launch) (D : va_G) (cA : Nat → ClassId) (z0 : Nat) (h : Nat) (v1 : Int32) (v2 : Int32) (v3 : Int32) (Z : q_Z) (M : q_C) (r : Int64) (hf : fX7_turn h v1 v2 v3 Z M = some r) : q_Ct l D cA z0 yX7_turn cX7_turn 4 (some .long) 3 71 [.ref h, .int v1, .int v2, .int v3] Z M (some (.long r)) Z M 0 0 := by
  (refine q_start (plainFor_of_name (by decide)) (Nat.le_of_ble_eq_true rfl) (fun p e s m below meth c H ls E hH hl => ?_); exact bX7_turn_0 E ⟨Nat.le_refl _, Nat.le_refl _⟩ ⟨Nat.le_refl _, Nat.le_refl _⟩ h _ _ _ Z M H [] ls r hf hH hl)
def fX7_sideOf_b83 (h : Nat) (v1 : Int32) (v2 : Int32) (v3 : Int32) (v5 : Int32) (s0 : Int32) (Z : q_Z) (M : q_C) : Option ((Int32 × Int32) ⊕ Int32) :=
  q_nm (v5 + (1 : Int32)) fun v5_7 =>
  some (Sum.inl (s0, v5_7))
set_option maxHeartbeats 4000000 in
set_option maxRecDepth 100000 in
theorem bX7_sideOf_83 {cells slots : Nat} {Q : State → Prop} (E : q_E p s m meth c cX7_sideOf 6 RX7 (some .int) "sideOf" D cA) (hR : 4 ≤ R.frames ∧ 94 ≤ R.locals) (hcc : cells ≤ R.cells ∧ slots ≤ R.slots) (h : Nat) (v1 : Int32) (v2 : Int32) (v3 : Int32) (v5 : Int32) (s0 : Int32) (Z : q_Z) (M : q_C) (H : Heap) (locs : List Loc) (ls : Array Slot) (o : (Int32 × Int32) ⊕ Int32) (hf : fX7_sideOf_b83 h v1 v2 v3 v5 s0 Z M = some o) (hH : q_Hh D cA z0 s Z M H locs) (hl : lv_has ls 6 [(0, .ref h), (1, .int v1), (2, .int v2), (3, .int v3), (5, .int v5)]) (kb : ∀ (w4 : Int32) (w5 : Int32) (H : Heap) (locs : List Loc) (ls : Array Slot), Sum.inl (w4, w5) = o → q_Hh D cA z0 s Z M H locs → lv_has ls 6 [(0, .ref h), (1, .int v1), (2, .int v2), (3, .int v3), (4, .int w4), (5, .int w5)] → W p l e R s m args below meth c H locs cells slots Q (F0 m 21 ls [])) (kx0 : ∀ (w4 : Int32) (H : Heap) (locs : List Loc) (ls : Array Slot), Sum.inr w4 = o → q_Hh D cA z0 s Z M H locs → lv_has ls 6 [(0, .ref h), (1, .int v1), (2, .int v2), (3, .int v3), (4, .int w4)] → W p l e R s m args below meth c H locs cells slots Q (F0 m 91 ls [])) : W p l e R s m args below meth c H locs cells slots Q (F0 m 83 ls [.int s0]) := by
  have hx := E.1
  have hb := E.2.1
  have hown := E.2.2.2.1
  have hT := E.2.2.2.2.2.2.2.1
  unfold fX7_sideOf_b83 at hf
  refine lv_istore (lv' := [(4, .int s0), (0, .ref h), (1, .int v1), (2, .int v2), (3, .int v3), (5, .int v5)]) hx hb dX7_sideOf_83 hl (by decide) rfl (fun ls hl => ?_)
  obtain ⟨v5_7, hn_8⟩ : ∃ y : Int32, y = v5 + (1 : Int32) := ⟨_, rfl⟩
  replace hf := q_nmE hn_8 hf
  refine lv_iinc (v := v5_7) (lv' := [(5, .int v5_7), (4, .int s0), (0, .ref h), (1, .int v1), (2, .int v2), (3, .int v3)]) hx hb dX7_sideOf_85 hl (k := 5) rfl (by rw [hn_8]; rfl) (by decide) rfl (fun ls hl => ?_)
  clear hn_8
  refine lv_goto (tgt := 21) hx hb dX7_sideOf_88 (by decide) ?_
  cases hf
  exact kb s0 v5_7 _ _ _ rfl hH (lv_sub hl [2, 3, 4, 5, 1, 0] rfl)
def fX7_sideOf_b78 (h : Nat) (v1 : Int32) (v2 : Int32) (v3 : Int32) (v5 : Int32) (Z : q_Z) (M : q_C) : Option ((Int32 × Int32) ⊕ Int32) :=
  fX7_sideOf_b83 h v1 v2 v3 v5 (1 : Int32) Z M
set_option maxHeartbeats 4000000 in
set_option maxRecDepth 100000 in
theorem bX7_sideOf_78 {cells slots : Nat} {Q : State → Prop} (E : q_E p s m meth c cX7_sideOf 6 RX7 (some .int) "sideOf" D cA) (hR : 4 ≤ R.frames ∧ 94 ≤ R.locals) (hcc : cells ≤ R.cells ∧ slots ≤ R.slots) (h : Nat) (v1 : Int32) (v2 : Int32) (v3 : Int32) (v5 : Int32) (Z : q_Z) (M : q_C) (H : Heap) (locs : List Loc) (ls : Array Slot) (o : (Int32 × Int32) ⊕ Int32) (hf : fX7_sideOf_b78 h v1 v2 v3 v5 Z M = some o) (hH : q_Hh D cA z0 s Z M H locs) (hl : lv_has ls 6 [(0, .ref h), (1, .int v1), (2, .int v2), (3, .int v3), (5, .int v5)]) (kb : ∀ (w4 : Int32) (w5 : Int32) (H : Heap) (locs : List Loc) (ls : Array Slot), Sum.inl (w4, w5) = o → q_Hh D cA z0 s Z M H locs → lv_has ls 6 [(0, .ref h), (1, .int v1), (2, .int v2), (3, .int v3), (4, .int w4), (5, .int w5)] → W p l e R s m args below meth c H locs cells slots Q (F0 m 21 ls [])) (kx0 : ∀ (w4 : Int32) (H : Heap) (locs : List Loc) (ls : Array Slot), Sum.inr w4 = o → q_Hh D cA z0 s Z M H locs → lv_has ls 6 [(0, .ref h), (1, .int v1), (2, .int v2), (3, .int v3), (4, .int w4)] → W p l e R s m args below meth c H locs cells slots Q (F0 m 91 ls [])) : W p l e R s m args below meth c H locs cells slots Q (F0 m 78 ls []) := by
  have hx := E.1
  have hb := E.2.1
  have hown := E.2.2.2.1
  have hT := E.2.2.2.2.2.2.2.1
  unfold fX7_sideOf_b78 at hf
  refine lv_iconst (v := 1) hx hb dX7_sideOf_78 (by decide) ?_
  refine lv_goto (tgt := 83) hx hb dX7_sideOf_79 (by decide) ?_
  exact bX7_sideOf_83 E hR hcc h v1 v2 v3 v5 (1 : Int32) Z M _ _ _ _ hf hH (lv_sub hl [0, 1, 2, 3, 4] rfl) kb kx0
def fX7_sideOf_b82 (h : Nat) (v1 : Int32) (v2 : Int32) (v3 : Int32) (v5 : Int32) (Z : q_Z) (M : q_C) : Option ((Int32 × Int32) ⊕ Int32) :=
  fX7_sideOf_b83 h v1 v2 v3 v5 (0 : Int32) Z M
set_option maxHeartbeats 4000000 in
set_option maxRecDepth 100000 in
theorem bX7_sideOf_82 {cells slots : Nat} {Q : State → Prop} (E : q_E p s m meth c cX7_sideOf 6 RX7 (some .int) "sideOf" D cA) (hR : 4 ≤ R.frames ∧ 94 ≤ R.locals) (hcc : cells ≤ R.cells ∧ slots ≤ R.slots) (h : Nat) (v1 : Int32) (v2 : Int32) (v3 : Int32) (v5 : Int32) (Z : q_Z) (M : q_C) (H : Heap) (locs : List Loc) (ls : Array Slot) (o : (Int32 × Int32) ⊕ Int32) (hf : fX7_sideOf_b82 h v1 v2 v3 v5 Z M = some o) (hH : q_Hh D cA z0 s Z M H locs) (hl : lv_has ls 6 [(0, .ref h), (1, .int v1), (2, .int v2), (3, .int v3), (5, .int v5)]) (kb : ∀ (w4 : Int32) (w5 : Int32) (H : Heap) (locs : List Loc) (ls : Array Slot), Sum.inl (w4, w5) = o → q_Hh D cA z0 s Z M H locs → lv_has ls 6 [(0, .ref h), (1, .int v1), (2, .int v2), (3, .int v3), (4, .int w4), (5, .int w5)] → W p l e R s m args below meth c H locs cells slots Q (F0 m 21 ls [])) (kx0 : ∀ (w4 : Int32) (H : Heap) (locs : List Loc) (ls : Array Slot), Sum.inr w4 = o → q_Hh D cA z0 s Z M H locs → lv_has ls 6 [(0, .ref h), (1, .int v1), (2, .int v2), (3, .int v3), (4, .int w4)] → W p l e R s m args below meth c H locs cells slots Q (F0 m 91 ls [])) : W p l e R s m args below meth c H locs cells slots Q (F0 m 82 ls []) := by
  have hx := E.1
  have hb := E.2.1
  have hown := E.2.2.2.1
  have hT := E.2.2.2.2.2.2.2.1
  unfold fX7_sideOf_b82 at hf
  refine lv_iconst (v := 0) hx hb dX7_sideOf_82 (by decide) ?_
  exact bX7_sideOf_83 E hR hcc h v1 v2 v3 v5 (0 : Int32) Z M _ _ _ _ hf hH (lv_sub hl [0, 1, 2, 3, 4] rfl) kb kx0
def fX7_sideOf_L21 (h : Nat) (v1 : Int32) (v2 : Int32) (v3 : Int32) (v4 : Int32) (v5 : Int32) (Z : q_Z) (M : q_C) : Option ((Int32 × Int32) ⊕ Int32) :=
  q_gd (zK Z h == 17) <|
  if gI M h 13 ≤ v5 then
    some (Sum.inr v4)
  else
    if v4 = 0 then
      some (Sum.inr v4)
    else
      Option.bind (fX7_isThere h v5 v1 Z M) fun r_5 =>
      if r_5 = 0 then
        fX7_sideOf_b78 h v1 v2 v3 v5 Z M
      else
        if v2 = 0 then
          Option.bind (fX7_turn h v5 v3 v1 Z M) fun r_9 =>
          if (0 : Int64) < r_9 then
            fX7_sideOf_b82 h v1 v2 v3 v5 Z M
          else
            fX7_sideOf_b78 h v1 v2 v3 v5 Z M
        else
          Option.bind (fX7_turn h v5 v3 v1 Z M) fun r_12 =>
          if r_12 < (0 : Int64) then
            fX7_sideOf_b82 h v1 v2 v3 v5 Z M
          else
            fX7_sideOf_b78 h v1 v2 v3 v5 Z M
set_option maxHeartbeats 4000000 in
set_option maxRecDepth 100000 in
theorem lX7_sideOf_21 {cells slots : Nat} {Q : State → Prop} (E : q_E p s m meth c cX7_sideOf 6 RX7 (some .int) "sideOf" D cA) (hR : 4 ≤ R.frames ∧ 94 ≤ R.locals) (hcc : cells ≤ R.cells ∧ slots ≤ R.slots)  (h : Nat) (v1 : Int32) (v2 : Int32) (v3 : Int32) (Z : q_Z) (M : q_C) : ∀ (n : Nat) (v4 : Int32) (v5 : Int32) (H : Heap) (locs : List Loc) (ls : Array Slot) (r : Int32), q_it (fun x => fX7_sideOf_L21 h v1 v2 v3 x.1 x.2 Z M) n (v4, v5) = some r → q_Hh D cA z0 s Z M H locs → lv_has ls 6 [(0, .ref h), (1, .int v1), (2, .int v2), (3, .int v3), (4, .int v4), (5, .int v5)] → (kx0 : ∀ (w4 : Int32) (H : Heap) (locs : List Loc) (ls : Array Slot), w4 = r → q_Hh D cA z0 s Z M H locs → lv_has ls 6 [(0, .ref h), (1, .int v1), (2, .int v2), (3, .int v3), (4, .int w4)] → W p l e R s m args below meth c H locs cells slots Q (F0 m 91 ls [])) → W p l e R s m args below meth c H locs cells slots Q (F0 m 21 ls []) := by
  have hx := E.1
  have hb := E.2.1
  have hown := E.2.2.2.1
  have hT := E.2.2.2.2.2.2.2.1
  intro n
  induction n with
  | zero =>
    intro v4 v5 H locs ls r hf
    cases hf
  | succ n ih =>
    intro v4 v5 H locs ls r hf hH hl ky0
    obtain ⟨n1, o, hn, hf, ho⟩ := q_itE hf
    cases hn
    have hf : fX7_sideOf_L21 h v1 v2 v3 v4 v5 Z M = some o := hf
    have kb : ∀ (w4 : Int32) (w5 : Int32) (H : Heap) (locs : List Loc) (ls : Array Slot), Sum.inl (w4, w5) = o → q_Hh D cA z0 s Z M H locs → lv_has ls 6 [(0, .ref h), (1, .int v1), (2, .int v2), (3, .int v3), (4, .int w4), (5, .int w5)] → W p l e R s m args below meth c H locs cells slots Q (F0 m 21 ls []) := by
      intro w4 w5 H locs ls e hH hl
      subst e
      exact ih w4 w5 H locs ls r ho hH hl ky0
    have kx0 : ∀ (w4 : Int32) (H : Heap) (locs : List Loc) (ls : Array Slot), Sum.inr w4 = o → q_Hh D cA z0 s Z M H locs → lv_has ls 6 [(0, .ref h), (1, .int v1), (2, .int v2), (3, .int v3), (4, .int w4)] → W p l e R s m args below meth c H locs cells slots Q (F0 m 91 ls []) := by
      intro w4 H locs ls e hH hl
      subst e
      exact ky0 w4 H locs ls ho hH hl
    unfold fX7_sideOf_L21 at hf
    refine lv_iload hx hb dX7_sideOf_21 (lv_at hl 5 rfl) ?_
    refine lv_aload_n hx hb dX7_sideOf_23 rfl (lv_at hl 0 rfl) ?_
    obtain ⟨hk_4, hf⟩ := q_gdE hf
    have hk_4 := q_keq hk_4
    refine q_getI E hH (ci := 7) rfl 13 (by decide) kF_X7_50 (fun _ _ _ => rfl) hk_4 dX7_sideOf_24 ?_
    refine lv_icmp_ge (tgt := 91) hx hb dX7_sideOf_27 (by decide) (fun cc_18 => ?_) (fun cc_18 => ?_)
    · replace hf := q_ifT cc_18 hf
      clear cc_18
      cases hf
      exact kx0 v4 _ _ _ rfl hH (lv_sub hl [0, 1, 2, 3, 4] rfl)
    · replace hf := q_ifF cc_18 hf
      clear cc_18
      refine lv_iload hx hb dX7_sideOf_30 (lv_at hl 4 rfl) ?_
      refine lv_if_eq (tgt := 91) hx hb dX7_sideOf_32 (by decide) (fun cc_17 => ?_) (fun cc_17 => ?_)
      · replace hf := q_ifT cc_17 hf
        clear cc_17
        cases hf
        exact kx0 v4 _ _ _ rfl hH (lv_sub hl [0, 1, 2, 3, 4] rfl)
      · replace hf := q_ifF cc_17 hf
        clear cc_17
        refine lv_aload_n hx hb dX7_sideOf_35 rfl (lv_at hl 0 rfl) ?_
        refine lv_iload hx hb dX7_sideOf_36 (lv_at hl 5 rfl) ?_
        refine lv_iload_n hx hb dX7_sideOf_38 rfl (lv_at hl 1 rfl) ?_
        obtain ⟨r_5, hw_6, hf⟩ := q_biE hf
        refine q_cV (As := [.int v5, .int v1]) (rest := []) (st1 := [.int r_5]) E hH (tX7_isThere l D cA z0 h v5 v1 Z M r_5 hw_6) mw_X7_isThere mi_X7_isThere (ci := 7) rfl ms_X7_isThere kM_X7_165 hk_4 hcc rfl rfl rfl hl.1 rfl rfl (Nat.le_of_ble_eq_true rfl) ⟨Nat.le_trans (by decide) hR.1, Nat.le_trans (by decide) hR.2⟩ dX7_sideOf_39 (fun H locs hH => ?_)
        refine lv_if_eq (tgt := 78) hx hb dX7_sideOf_42 (by decide) (fun cc_16 => ?_) (fun cc_16 => ?_)
        · replace hf := q_ifT cc_16 hf
          clear cc_16
          exact bX7_sideOf_78 E hR hcc h v1 v2 v3 v5 Z M _ _ _ _ hf hH (lv_sub hl [0, 1, 2, 3, 5] rfl) kb kx0
        · replace hf := q_ifF cc_16 hf
          clear cc_16
          refine lv_iload_n hx hb dX7_sideOf_45 rfl (lv_at hl 2 rfl) ?_
          refine lv_if_eq (tgt := 65) hx hb dX7_sideOf_46 (by decide) (fun cc_15 => ?_) (fun cc_15 => ?_)
          · replace hf := q_ifT cc_15 hf
            clear cc_15
            refine lv_aload_n hx hb dX7_sideOf_65 rfl (lv_at hl 0 rfl) ?_
            refine lv_iload hx hb dX7_sideOf_66 (lv_at hl 5 rfl) ?_
            refine lv_iload_n hx hb dX7_sideOf_68 rfl (lv_at hl 3 rfl) ?_
            refine lv_iload_n hx hb dX7_sideOf_69 rfl (lv_at hl 1 rfl) ?_
            obtain ⟨r_9, hw_10, hf⟩ := q_biE hf
            refine q_cV (As := [.int v5, .int v3, .int v1]) (rest := []) (st1 := [.long r_9]) E hH (tX7_turn l D cA z0 h v5 v3 v1 Z M r_9 hw_10) mw_X7_turn mi_X7_turn (ci := 7) rfl ms_X7_turn kM_X7_203 hk_4 hcc rfl rfl rfl hl.1 rfl rfl (Nat.le_of_ble_eq_true rfl) ⟨Nat.le_trans (by decide) hR.1, Nat.le_trans (by decide) hR.2⟩ dX7_sideOf_70 (fun H locs hH => ?_)
            refine lv_lconst (v := 0) hx hb dX7_sideOf_73 (by decide) ?_
            refine q_lcmp_gt (pc1 := 75) (tgt := 82) hx hb dX7_sideOf_74 rfl dX7_sideOf_75 (by decide) (fun cc_11 => ?_) (fun cc_11 => ?_)
            · replace hf := q_ifT cc_11 hf
              clear cc_11
              exact bX7_sideOf_82 E hR hcc h v1 v2 v3 v5 Z M _ _ _ _ hf hH (lv_sub hl [0, 1, 2, 3, 5] rfl) kb kx0
            · replace hf := q_ifF cc_11 hf
              clear cc_11
              exact bX7_sideOf_78 E hR hcc h v1 v2 v3 v5 Z M _ _ _ _ hf hH (lv_sub hl [0, 1, 2, 3, 5] rfl) kb kx0
          · replace hf := q_ifF cc_15 hf
            clear cc_15
            refine lv_aload_n hx hb dX7_sideOf_49 rfl (lv_at hl 0 rfl) ?_
            refine lv_iload hx hb dX7_sideOf_50 (lv_at hl 5 rfl) ?_
            refine lv_iload_n hx hb dX7_sideOf_52 rfl (lv_at hl 3 rfl) ?_
            refine lv_iload_n hx hb dX7_sideOf_53 rfl (lv_at hl 1 rfl) ?_
            obtain ⟨r_12, hw_13, hf⟩ := q_biE hf
            refine q_cV (As := [.int v5, .int v3, .int v1]) (rest := []) (st1 := [.long r_12]) E hH (tX7_turn l D cA z0 h v5 v3 v1 Z M r_12 hw_13) mw_X7_turn mi_X7_turn (ci := 7) rfl ms_X7_turn kM_X7_203 hk_4 hcc rfl rfl rfl hl.1 rfl rfl (Nat.le_of_ble_eq_true rfl) ⟨Nat.le_trans (by decide) hR.1, Nat.le_trans (by decide) hR.2⟩ dX7_sideOf_54 (fun H locs hH => ?_)
            refine lv_lconst (v := 0) hx hb dX7_sideOf_57 (by decide) ?_
            refine q_lcmp_lt (pc1 := 59) (tgt := 82) hx hb dX7_sideOf_58 rfl dX7_sideOf_59 (by decide) (fun cc_14 => ?_) (fun cc_14 => ?_)
            · replace hf := q_ifT cc_14 hf
              clear cc_14
              exact bX7_sideOf_82 E hR hcc h v1 v2 v3 v5 Z M _ _ _ _ hf hH (lv_sub hl [0, 1, 2, 3, 5] rfl) kb kx0
            · replace hf := q_ifF cc_14 hf
              clear cc_14
              refine lv_goto (tgt := 78) hx hb dX7_sideOf_62 (by decide) ?_
              exact bX7_sideOf_78 E hR hcc h v1 v2 v3 v5 Z M _ _ _ _ hf hH (lv_sub hl [0, 1, 2, 3, 5] rfl) kb kx0
def fX7_sideOf_b91 (h : Nat) (v1 : Int32) (v2 : Int32) (v3 : Int32) (v4 : Int32) (Z : q_Z) (M : q_C) : Option (Int32 ⊕ (Int32 ⊕ Unit)) :=
  if v4 = 0 then
    q_nm (v3 + (1 : Int32)) fun v3_22 =>
    some (Sum.inl v3_22)
  else
    some (Sum.inr (Sum.inl v3))
set_option maxHeartbeats 4000000 in
set_option maxRecDepth 100000 in
theorem bX7_sideOf_91 {cells slots : Nat} {Q : State → Prop} (E : q_E p s m meth c cX7_sideOf 6 RX7 (some .int) "sideOf" D cA) (hR : 4 ≤ R.frames ∧ 94 ≤ R.locals) (hcc : cells ≤ R.cells ∧ slots ≤ R.slots) (h : Nat) (v1 : Int32) (v2 : Int32) (v3 : Int32) (v4 : Int32) (Z : q_Z) (M : q_C) (H : Heap) (locs : List Loc) (ls : Array Slot) (o : Int32 ⊕ (Int32 ⊕ Unit)) (hf : fX7_sideOf_b91 h v1 v2 v3 v4 Z M = some o) (hH : q_Hh D cA z0 s Z M H locs) (hl : lv_has ls 6 [(0, .ref h), (1, .int v1), (2, .int v2), (3, .int v3), (4, .int v4)]) (kb : ∀ (w3 : Int32) (H : Heap) (locs : List Loc) (ls : Array Slot), Sum.inl w3 = o → q_Hh D cA z0 s Z M H locs → lv_has ls 6 [(0, .ref h), (1, .int v1), (2, .int v2), (3, .int w3)] → W p l e R s m args below meth c H locs cells slots Q (F0 m 2 ls [])) (kx0 : ∀ (w3 : Int32) (H : Heap) (locs : List Loc) (ls : Array Slot), Sum.inr (Sum.inl w3) = o → q_Hh D cA z0 s Z M H locs → lv_has ls 6 [(3, .int w3)] → W p l e R s m args below meth c H locs cells slots Q (F0 m 96 ls [])) (kx1 : ∀  (H : Heap) (locs : List Loc) (ls : Array Slot), Sum.inr (Sum.inr ()) = o → q_Hh D cA z0 s Z M H locs → lv_has ls 6 [] → W p l e R s m args below meth c H locs cells slots Q (F0 m 104 ls [])) : W p l e R s m args below meth c H locs cells slots Q (F0 m 91 ls []) := by
  have hx := E.1
  have hb := E.2.1
  have hown := E.2.2.2.1
  have hT := E.2.2.2.2.2.2.2.1
  unfold fX7_sideOf_b91 at hf
  refine lv_iload hx hb dX7_sideOf_91 (lv_at hl 4 rfl) ?_
  refine lv_if_eq (tgt := 98) hx hb dX7_sideOf_93 (by decide) (fun cc_24 => ?_) (fun cc_24 => ?_)
  · replace hf := q_ifT cc_24 hf
    clear cc_24
    obtain ⟨v3_22, hn_23⟩ : ∃ y : Int32, y = v3 + (1 : Int32) := ⟨_, rfl⟩
    replace hf := q_nmE hn_23 hf
    refine lv_iinc (v := v3_22) (lv' := [(3, .int v3_22), (0, .ref h), (1, .int v1), (2, .int v2), (4, .int v4)]) hx hb dX7_sideOf_98 hl (k := 3) rfl (by rw [hn_23]; rfl) (by decide) rfl (fun ls hl => ?_)
    clear hn_23
    refine lv_goto (tgt := 2) hx hb dX7_sideOf_101 (by decide) ?_
    cases hf
    exact kb v3_22 _ _ _ rfl hH (lv_sub hl [1, 2, 3, 0] rfl)
  · replace hf := q_ifF cc_24 hf
    clear cc_24
    cases hf
    exact kx0 v3 _ _ _ rfl hH (lv_sub hl [3] rfl)
def fX7_sideOf_L2 (h : Nat) (v1 : Int32) (v2 : Int32) (v3 : Int32) (Z : q_Z) (M : q_C) : Option (Int32 ⊕ (Int32 ⊕ Unit)) :=
  q_gd (zK Z h == 17) <|
  if gI M h 13 ≤ v3 then
    some (Sum.inr (Sum.inr ()))
  else
    Option.bind (fX7_isThere h v3 v1 Z M) fun r_2 =>
    Option.bind (q_it (fun x => fX7_sideOf_L21 h v1 v2 v3 x.1 x.2 Z M) q_FU (r_2, (0 : Int32))) fun r_19 =>
    q_nm r_19 fun v4_21 =>
    fX7_sideOf_b91 h v1 v2 v3 v4_21 Z M
set_option maxHeartbeats 4000000 in
set_option maxRecDepth 100000 in
theorem lX7_sideOf_2 {cells slots : Nat} {Q : State → Prop} (E : q_E p s m meth c cX7_sideOf 6 RX7 (some .int) "sideOf" D cA) (hR : 4 ≤ R.frames ∧ 94 ≤ R.locals) (hcc : cells ≤ R.cells ∧ slots ≤ R.slots)  (h : Nat) (v1 : Int32) (v2 : Int32) (Z : q_Z) (M : q_C) : ∀ (n : Nat) (v3 : Int32) (H : Heap) (locs : List Loc) (ls : Array Slot) (r : Int32 ⊕ Unit), q_it (fun x => fX7_sideOf_L2 h v1 v2 x Z M) n v3 = some r → q_Hh D cA z0 s Z M H locs → lv_has ls 6 [(0, .ref h), (1, .int v1), (2, .int v2), (3, .int v3)] → (kx0 : ∀ (w3 : Int32) (H : Heap) (locs : List Loc) (ls : Array Slot), (Sum.inl w3) = r → q_Hh D cA z0 s Z M H locs → lv_has ls 6 [(3, .int w3)] → W p l e R s m args below meth c H locs cells slots Q (F0 m 96 ls [])) → (kx1 : ∀  (H : Heap) (locs : List Loc) (ls : Array Slot), (Sum.inr ()) = r → q_Hh D cA z0 s Z M H locs → lv_has ls 6 [] → W p l e R s m args below meth c H locs cells slots Q (F0 m 104 ls [])) → W p l e R s m args below meth c H locs cells slots Q (F0 m 2 ls []) := by
  have hx := E.1
  have hb := E.2.1
  have hown := E.2.2.2.1
  have hT := E.2.2.2.2.2.2.2.1
  intro n
  induction n with
  | zero =>
    intro v3 H locs ls r hf
    cases hf
  | succ n ih =>
    intro v3 H locs ls r hf hH hl ky0 ky1
    obtain ⟨n1, o, hn, hf, ho⟩ := q_itE hf
    cases hn
    have hf : fX7_sideOf_L2 h v1 v2 v3 Z M = some o := hf
    have kb : ∀ (w3 : Int32) (H : Heap) (locs : List Loc) (ls : Array Slot), Sum.inl w3 = o → q_Hh D cA z0 s Z M H locs → lv_has ls 6 [(0, .ref h), (1, .int v1), (2, .int v2), (3, .int w3)] → W p l e R s m args below meth c H locs cells slots Q (F0 m 2 ls []) := by
      intro w3 H locs ls e hH hl
      subst e
      exact ih w3 H locs ls r ho hH hl ky0 ky1
    have kx0 : ∀ (w3 : Int32) (H : Heap) (locs : List Loc) (ls : Array Slot), Sum.inr (Sum.inl w3) = o → q_Hh D cA z0 s Z M H locs → lv_has ls 6 [(3, .int w3)] → W p l e R s m args below meth c H locs cells slots Q (F0 m 96 ls []) := by
      intro w3 H locs ls e hH hl
      subst e
      exact ky0 w3 H locs ls ho hH hl
    have kx1 : ∀  (H : Heap) (locs : List Loc) (ls : Array Slot), Sum.inr (Sum.inr ()) = o → q_Hh D cA z0 s Z M H locs → lv_has ls 6 [] → W p l e R s m args below meth c H locs cells slots Q (F0 m 104 ls []) := by
      intro  H locs ls e hH hl
      subst e
      exact ky1  H locs ls ho hH hl
    unfold fX7_sideOf_L2 at hf
    refine lv_iload_n hx hb dX7_sideOf_2 rfl (lv_at hl 3 rfl) ?_
    refine lv_aload_n hx hb dX7_sideOf_3 rfl (lv_at hl 0 rfl) ?_
    obtain ⟨hk_1, hf⟩ := q_gdE hf
    have hk_1 := q_keq hk_1
    refine q_getI E hH (ci := 7) rfl 13 (by decide) kF_X7_50 (fun _ _ _ => rfl) hk_1 dX7_sideOf_4 ?_
    refine lv_icmp_ge (tgt := 104) hx hb dX7_sideOf_7 (by decide) (fun cc_26 => ?_) (fun cc_26 => ?_)
    · replace hf := q_ifT cc_26 hf
      clear cc_26
      cases hf
      exact kx1  _ _ _ rfl hH (lv_sub hl [] rfl)
    · replace hf := q_ifF cc_26 hf
      clear cc_26
      refine lv_aload_n hx hb dX7_sideOf_10 rfl (lv_at hl 0 rfl) ?_
      refine lv_iload_n hx hb dX7_sideOf_11 rfl (lv_at hl 3 rfl) ?_
      refine lv_iload_n hx hb dX7_sideOf_12 rfl (lv_at hl 1 rfl) ?_
      obtain ⟨r_2, hw_3, hf⟩ := q_biE hf
      refine q_cV (As := [.int v3, .int v1]) (rest := []) (st1 := [.int r_2]) E hH (tX7_isThere l D cA z0 h v3 v1 Z M r_2 hw_3) mw_X7_isThere mi_X7_isThere (ci := 7) rfl ms_X7_isThere kM_X7_165 hk_1 hcc rfl rfl rfl hl.1 rfl rfl (Nat.le_of_ble_eq_true rfl) ⟨Nat.le_trans (by decide) hR.1, Nat.le_trans (by decide) hR.2⟩ dX7_sideOf_13 (fun H locs hH => ?_)
      refine lv_istore (lv' := [(4, .int r_2), (0, .ref h), (1, .int v1), (2, .int v2), (3, .int v3)]) hx hb dX7_sideOf_16 hl (by decide) rfl (fun ls hl => ?_)
      refine lv_iconst (v := 0) hx hb dX7_sideOf_18 (by decide) ?_
      refine lv_istore (lv' := [(5, .int (0 : Int32)), (4, .int r_2), (0, .ref h), (1, .int v1), (2, .int v2), (3, .int v3)]) hx hb dX7_sideOf_19 hl (by decide) rfl (fun ls hl => ?_)
      obtain ⟨r_19, hr_20, hf⟩ := q_biE hf
      refine lX7_sideOf_21 E hR hcc h v1 v2 v3 Z M q_FU r_2 (0 : Int32) _ _ _ r_19 hr_20 hH (lv_sub hl [2, 3, 4, 5, 1, 0] rfl) (fun v4_21 H locs ls he_25 hH hl => ?_)
      · subst he_25
        replace hf := q_nmE (x := v4_21) rfl hf
        exact bX7_sideOf_91 E hR hcc h v1 v2 v3 v4_21 Z M _ _ _ _ hf hH (lv_sub hl [0, 1, 2, 3, 4] rfl) kb kx0 kx1
def fX7_sideOf (h : Nat) (v1 : Int32) (v2 : Int32) (Z : q_Z) (M : q_C) : Option (Int32) :=
  Option.bind (q_it (fun x => fX7_sideOf_L2 h v1 v2 x Z M) q_FU (0 : Int32)) fun r_27 =>
  q_sm r_27 (fun e_29 =>
    q_nm e_29 fun v3_30 =>
    some v3_30
  ) fun e_31 =>
  some (-1 : Int32)
set_option maxHeartbeats 4000000 in
set_option maxRecDepth 100000 in
theorem bX7_sideOf_0 {cells slots : Nat} (E : q_E p s m meth c cX7_sideOf 6 RX7 (some .int) "sideOf" D cA) (hR : 4 ≤ R.frames ∧ 94 ≤ R.locals) (hcc : cells ≤ R.cells ∧ slots ≤ R.slots) (h : Nat) (v1 : Int32) (v2 : Int32) (Z : q_Z) (M : q_C) (H : Heap) (locs : List Loc) (ls : Array Slot) (r : Int32) (hf : fX7_sideOf h v1 v2 Z M = some r) (hH : q_Hh D cA z0 s Z M H locs) (hl : lv_has ls 6 [(0, .ref h), (1, .int v1), (2, .int v2)])  : W p l e R s m args below meth c H locs cells slots (MQ below (q_Q D cA z0 (some (.int r)) Z M) args s cells slots (fun q => z0 ≤ q)) (F0 m 0 ls []) := by
  have hx := E.1
  have hb := E.2.1
  have hown := E.2.2.2.1
  have hT := E.2.2.2.2.2.2.2.1
  unfold fX7_sideOf at hf
  refine lv_iconst (v := 0) hx hb dX7_sideOf_0 (by decide) ?_
  refine lv_istore_n (lv' := [(3, .int (0 : Int32)), (0, .ref h), (1, .int v1), (2, .int v2)]) hx hb dX7_sideOf_1 rfl hl (by decide) rfl (fun ls hl => ?_)
  obtain ⟨r_27, hr_28, hf⟩ := q_biE hf
  refine lX7_sideOf_2 E hR hcc h v1 v2 Z M q_FU (0 : Int32) _ _ _ r_27 hr_28 hH (lv_sub hl [1, 2, 3, 0] rfl) (fun v3_30 H locs ls he_32 hH hl => ?_) (fun  H locs ls he_33 hH hl => ?_)
  · subst he_32
    replace hf := q_smL hf
    replace hf := q_nmE (x := v3_30) rfl hf
    refine lv_iload_n hx hb dX7_sideOf_96 rfl (lv_at hl 0 rfl) ?_
    cases hf
    exact q_iret E hH dX7_sideOf_97
  · subst he_33
    replace hf := q_smR hf
    refine lv_iconst (v := -1) hx hb dX7_sideOf_104 (by decide) ?_
    cases hf
    exact q_iret E hH dX7_sideOf_105
set_option maxRecDepth 100000 in
theorem tX7_sideOf (l : Launch) (D : va_G) (cA : Nat → ClassId) (z0 : Nat) (h : Nat) (v1 : Int32) (v2 : Int32) (Z : q_Z) (M : q_C) (r : Int32) (hf : fX7_sideOf h v1 v2 Z M = some r) : q_Ct l D cA z0 yX7_sideOf cX7_sideOf 6 (some .int) 4 94 [.ref h, .int v1, .int v2] Z M (some (.int r)) Z M 0 0 := by
  (refine q_start (plainFor_of_name (by decide)) (Nat.le_of_ble_eq_true rfl) (fun p e s m below meth c H ls E hH hl => ?_); exact bX7_sideOf_0 E ⟨Nat.le_refl _, Nat.le_refl _⟩ ⟨Nat.le_refl _, Nat.le_refl _⟩ h _ _ Z M H [] ls r hf hH hl)
def fX7_widthOf_b22 (h : Nat) (Z : q_Z) (M : q_C) : Option (Int32) :=
  some (-2 : Int32)
set_option maxHeartbeats 4000000 in
set_option maxRecDepth 100000 in
theorem bX7_widthOf_22 {cells slots : Nat} (E : q_E p s m meth c cX7_widthOf 10 RX7 (some .int) "widthOf" D cA) (hR : 5 ≤ R.frames ∧ 119 ≤ R.locals) (hcc : cells ≤ R.cells ∧ slots ≤ R.slots) (h : Nat) (Z : q_Z) (M : q_C) (H : Heap) (locs : List Loc) (ls : Array Slot) (r : Int32) (hf : fX7_widthOf_b22 h Z M = some r) (hH : q_Hh D cA z0 s Z M H locs) (hl : lv_has ls 10 [])  : W p l e R s m args below meth c H locs cells slots (MQ below (q_Q D cA z0 (some (.int r)) Z M) args s cells slots (fun q => z0 ≤ q)) (F0 m 22 ls []) := by
  have hx := E.1
  have hb := E.2.1
  have hown := E.2.2.2.1
  have hT := E.2.2.2.2.2.2.2.1
  unfold fX7_widthOf_b22 at hf
  refine lv_bipush (v := -2) hx hb dX7_widthOf_22 (by decide) ?_
  cases hf
  exact q_iret E hH dX7_widthOf_24
def fX7_widthOf_b122 (h : Nat) (s0 : Int32) (Z : q_Z) (M : q_C) : Option (Int32) :=
  some s0
set_option maxHeartbeats 4000000 in
set_option maxRecDepth 100000 in
theorem bX7_widthOf_122 {cells slots : Nat} (E : q_E p s m meth c cX7_widthOf 10 RX7 (some .int) "widthOf" D cA) (hR : 5 ≤ R.frames ∧ 119 ≤ R.locals) (hcc : cells ≤ R.cells ∧ slots ≤ R.slots) (h : Nat) (s0 : Int32) (Z : q_Z) (M : q_C) (H : Heap) (locs : List Loc) (ls : Array Slot) (r : Int32) (hf : fX7_widthOf_b122 h s0 Z M = some r) (hH : q_Hh D cA z0 s Z M H locs) (hl : lv_has ls 10 [])  : W p l e R s m args below meth c H locs cells slots (MQ below (q_Q D cA z0 (some (.int r)) Z M) args s cells slots (fun q => z0 ≤ q)) (F0 m 122 ls [.int s0]) := by
  have hx := E.1
  have hb := E.2.1
  have hown := E.2.2.2.1
  have hT := E.2.2.2.2.2.2.2.1
  unfold fX7_widthOf_b122 at hf
  cases hf
  exact q_iret E hH dX7_widthOf_122
def fX7_widthOf_b82 (h : Nat) (v4 : Int64) (s0 : Int64) (Z : q_Z) (M : q_C) : Option (Int32) :=
  if (0 : Int64) < v4 then
    q_gd (!(decide (v4 = 0))) <|
    q_nm (((1000 : Int64) * s0) / v4) fun v8_19 =>
    if v8_19 ≤ (2147483647 : Int64) then
      fX7_widthOf_b122 h v8_19.toInt32 Z M
    else
      fX7_widthOf_b122 h (2147483647 : Int32) Z M
  else
    some (-2 : Int32)
set_option maxHeartbeats 4000000 in
set_option maxRecDepth 100000 in
theorem bX7_widthOf_82 {cells slots : Nat} (E : q_E p s m meth c cX7_widthOf 10 RX7 (some .int) "widthOf" D cA) (hR : 5 ≤ R.frames ∧ 119 ≤ R.locals) (hcc : cells ≤ R.cells ∧ slots ≤ R.slots) (h : Nat) (v4 : Int64) (s0 : Int64) (Z : q_Z) (M : q_C) (H : Heap) (locs : List Loc) (ls : Array Slot) (r : Int32) (hf : fX7_widthOf_b82 h v4 s0 Z M = some r) (hH : q_Hh D cA z0 s Z M H locs) (hl : lv_has ls 10 [(4, .long v4)])  : W p l e R s m args below meth c H locs cells slots (MQ below (q_Q D cA z0 (some (.int r)) Z M) args s cells slots (fun q => z0 ≤ q)) (F0 m 82 ls [.long s0]) := by
  have hx := E.1
  have hb := E.2.1
  have hown := E.2.2.2.1
  have hT := E.2.2.2.2.2.2.2.1
  unfold fX7_widthOf_b82 at hf
  refine lv_lstore (lv' := [(6, .long s0), (4, .long v4)]) hx hb dX7_widthOf_82 hl (by decide) rfl (fun ls hl => ?_)
  refine lv_lload hx hb dX7_widthOf_84 (lv_at hl 1 rfl) ?_
  refine lv_lconst (v := 0) hx hb dX7_widthOf_86 (by decide) ?_
  refine q_lcmp_gt (pc1 := 88) (tgt := 94) hx hb dX7_widthOf_87 rfl dX7_widthOf_88 (by decide) (fun cc_22 => ?_) (fun cc_22 => ?_)
  · replace hf := q_ifT cc_22 hf
    clear cc_22
    refine lv_ldc2 hx hb hown (hT.1 _ _ kK_X7_169) dX7_widthOf_94 ?_
    refine lv_lload hx hb dX7_widthOf_97 (lv_at hl 0 rfl) ?_
    refine lv_lmul hx hb dX7_widthOf_99 ?_
    refine lv_lload hx hb dX7_widthOf_100 (lv_at hl 1 rfl) ?_
    obtain ⟨hz_18, hf⟩ := q_gdE hf
    refine lv_ldiv hx hb dX7_widthOf_102 (by simpa using hz_18) ?_
    refine lv_topl (fun v8_19 hn_20 => ?_)
    replace hf := q_nmE hn_20 hf
    clear hn_20
    refine lv_lstore (lv' := [(8, .long v8_19), (6, .long s0), (4, .long v4)]) hx hb dX7_widthOf_103 hl (by decide) rfl (fun ls hl => ?_)
    refine lv_lload hx hb dX7_widthOf_105 (lv_at hl 0 rfl) ?_
    refine lv_ldc2 hx hb hown (hT.1 _ _ kK_X7_210) dX7_widthOf_107 ?_
    refine q_lcmp_le (pc1 := 111) (tgt := 119) hx hb dX7_widthOf_110 rfl dX7_widthOf_111 (by decide) (fun cc_21 => ?_) (fun cc_21 => ?_)
    · replace hf := q_ifT cc_21 hf
      clear cc_21
      refine lv_lload hx hb dX7_widthOf_119 (lv_at hl 0 rfl) ?_
      refine lv_l2i hx hb dX7_widthOf_121 rfl ?_
      exact bX7_widthOf_122 E hR hcc h v8_19.toInt32 Z M _ _ _ _ hf hH (lv_sub hl [] rfl)
    · replace hf := q_ifF cc_21 hf
      clear cc_21
      refine lv_ldc hx hb hown (hT.1 _ _ kK_X7_212) dX7_widthOf_114 ?_
      refine lv_goto (tgt := 122) hx hb dX7_widthOf_116 (by decide) ?_
      exact bX7_widthOf_122 E hR hcc h (2147483647 : Int32) Z M _ _ _ _ hf hH (lv_sub hl [] rfl)
  · replace hf := q_ifF cc_22 hf
    clear cc_22
    refine lv_bipush (v := -2) hx hb dX7_widthOf_91 (by decide) ?_
    cases hf
    exact q_iret E hH dX7_widthOf_93
def fX7_widthOf (h : Nat) (v1 : Int32) (Z : q_Z) (M : q_C) : Option (Int32) :=
  q_gd (zK Z h == 17) <|
  Option.bind (fX7_sideOf h v1 (1 : Int32) Z M) fun r_2 =>
  Option.bind (fX7_sideOf h v1 (0 : Int32) Z M) fun r_4 =>
  if r_2 < 0 then
    fX7_widthOf_b22 h Z M
  else
    if 0 ≤ r_4 then
      Option.bind (fX7_seenAt h r_2 v1 (0 : Int32) Z M) fun r_6 =>
      Option.bind (fX7_seenAt h r_4 v1 (0 : Int32) Z M) fun r_8 =>
      Option.bind (fX7_seenAt h r_2 v1 (1 : Int32) Z M) fun r_10 =>
      Option.bind (fX7_seenAt h r_4 v1 (1 : Int32) Z M) fun r_12 =>
      q_nm ((r_6 * r_8) + (r_10 * r_12)) fun v4_14 =>
      Option.bind (fX7_turn h r_2 r_4 v1 Z M) fun r_16 =>
      if (0 : Int64) ≤ r_16 then
        fX7_widthOf_b82 h v4_14 r_16 Z M
      else
        fX7_widthOf_b82 h v4_14 (-r_16) Z M
    else
      fX7_widthOf_b22 h Z M
set_option maxHeartbeats 4000000 in
set_option maxRecDepth 100000 in
theorem bX7_widthOf_0 {cells slots : Nat} (E : q_E p s m meth c cX7_widthOf 10 RX7 (some .int) "widthOf" D cA) (hR : 5 ≤ R.frames ∧ 119 ≤ R.locals) (hcc : cells ≤ R.cells ∧ slots ≤ R.slots) (h : Nat) (v1 : Int32) (Z : q_Z) (M : q_C) (H : Heap) (locs : List Loc) (ls : Array Slot) (r : Int32) (hf : fX7_widthOf h v1 Z M = some r) (hH : q_Hh D cA z0 s Z M H locs) (hl : lv_has ls 10 [(0, .ref h), (1, .int v1)])  : W p l e R s m args below meth c H locs cells slots (MQ below (q_Q D cA z0 (some (.int r)) Z M) args s cells slots (fun q => z0 ≤ q)) (F0 m 0 ls []) := by
  have hx := E.1
  have hb := E.2.1
  have hown := E.2.2.2.1
  have hT := E.2.2.2.2.2.2.2.1
  unfold fX7_widthOf at hf
  refine lv_aload_n hx hb dX7_widthOf_0 rfl (lv_at hl 0 rfl) ?_
  refine lv_iload_n hx hb dX7_widthOf_1 rfl (lv_at hl 1 rfl) ?_
  refine lv_iconst (v := 1) hx hb dX7_widthOf_2 (by decide) ?_
  obtain ⟨hk_1, hf⟩ := q_gdE hf
  have hk_1 := q_keq hk_1
  obtain ⟨r_2, hw_3, hf⟩ := q_biE hf
  refine q_cV (As := [.int v1, .int (1 : Int32)]) (rest := []) (st1 := [.int r_2]) E hH (tX7_sideOf l D cA z0 h v1 (1 : Int32) Z M r_2 hw_3) mw_X7_sideOf mi_X7_sideOf (ci := 7) rfl ms_X7_sideOf kM_X7_206 hk_1 hcc rfl rfl rfl hl.1 rfl rfl (Nat.le_of_ble_eq_true rfl) ⟨Nat.le_trans (by decide) hR.1, Nat.le_trans (by decide) hR.2⟩ dX7_widthOf_3 (fun H locs hH => ?_)
  refine lv_istore_n (lv' := [(2, .int r_2), (0, .ref h), (1, .int v1)]) hx hb dX7_widthOf_6 rfl hl (by decide) rfl (fun ls hl => ?_)
  refine lv_aload_n hx hb dX7_widthOf_7 rfl (lv_at hl 1 rfl) ?_
  refine lv_iload_n hx hb dX7_widthOf_8 rfl (lv_at hl 2 rfl) ?_
  refine lv_iconst (v := 0) hx hb dX7_widthOf_9 (by decide) ?_
  obtain ⟨r_4, hw_5, hf⟩ := q_biE hf
  refine q_cV (As := [.int v1, .int (0 : Int32)]) (rest := []) (st1 := [.int r_4]) E hH (tX7_sideOf l D cA z0 h v1 (0 : Int32) Z M r_4 hw_5) mw_X7_sideOf mi_X7_sideOf (ci := 7) rfl ms_X7_sideOf kM_X7_206 hk_1 hcc rfl rfl rfl hl.1 rfl rfl (Nat.le_of_ble_eq_true rfl) ⟨Nat.le_trans (by decide) hR.1, Nat.le_trans (by decide) hR.2⟩ dX7_widthOf_10 (fun H locs hH => ?_)
  refine lv_istore_n (lv' := [(3, .int r_4), (2, .int r_2), (0, .ref h), (1, .int v1)]) hx hb dX7_widthOf_13 rfl hl (by decide) rfl (fun ls hl => ?_)
  refine lv_iload_n hx hb dX7_widthOf_14 rfl (lv_at hl 1 rfl) ?_
  refine lv_if_lt (tgt := 22) hx hb dX7_widthOf_15 (by decide) (fun cc_25 => ?_) (fun cc_25 => ?_)
  · replace hf := q_ifT cc_25 hf
    clear cc_25
    exact bX7_widthOf_22 E hR hcc h Z M _ _ _ _ hf hH (lv_sub hl [] rfl)
  · replace hf := q_ifF cc_25 hf
    clear cc_25
    refine lv_iload_n hx hb dX7_widthOf_18 rfl (lv_at hl 0 rfl) ?_
    refine lv_if_ge (tgt := 25) hx hb dX7_widthOf_19 (by decide) (fun cc_24 => ?_) (fun cc_24 => ?_)
    · replace hf := q_ifT cc_24 hf
      clear cc_24
      refine lv_aload_n hx hb dX7_widthOf_25 rfl (lv_at hl 2 rfl) ?_
      refine lv_iload_n hx hb dX7_widthOf_26 rfl (lv_at hl 1 rfl) ?_
      refine lv_iload_n hx hb dX7_widthOf_27 rfl (lv_at hl 3 rfl) ?_
      refine lv_iconst (v := 0) hx hb dX7_widthOf_28 (by decide) ?_
      obtain ⟨r_6, hw_7, hf⟩ := q_biE hf
      refine q_cV (As := [.int r_2, .int v1, .int (0 : Int32)]) (rest := []) (st1 := [.long r_6]) E hH (tX7_seenAt l D cA z0 h r_2 v1 (0 : Int32) Z M r_6 hw_7) mw_X7_seenAt mi_X7_seenAt (ci := 7) rfl ms_X7_seenAt kM_X7_199 hk_1 hcc rfl rfl rfl hl.1 rfl rfl (Nat.le_of_ble_eq_true rfl) ⟨Nat.le_trans (by decide) hR.1, Nat.le_trans (by decide) hR.2⟩ dX7_widthOf_29 (fun H locs hH => ?_)
      refine lv_aload_n hx hb dX7_widthOf_32 rfl (lv_at hl 2 rfl) ?_
      refine lv_iload_n hx hb dX7_widthOf_33 rfl (lv_at hl 0 rfl) ?_
      refine lv_iload_n hx hb dX7_widthOf_34 rfl (lv_at hl 3 rfl) ?_
      refine lv_iconst (v := 0) hx hb dX7_widthOf_35 (by decide) ?_
      obtain ⟨r_8, hw_9, hf⟩ := q_biE hf
      refine q_cV (As := [.int r_4, .int v1, .int (0 : Int32)]) (rest := [.long r_6]) (st1 := [.long r_8, .long r_6]) E hH (tX7_seenAt l D cA z0 h r_4 v1 (0 : Int32) Z M r_8 hw_9) mw_X7_seenAt mi_X7_seenAt (ci := 7) rfl ms_X7_seenAt kM_X7_199 hk_1 hcc rfl rfl rfl hl.1 rfl rfl (Nat.le_of_ble_eq_true rfl) ⟨Nat.le_trans (by decide) hR.1, Nat.le_trans (by decide) hR.2⟩ dX7_widthOf_36 (fun H locs hH => ?_)
      refine lv_lmul hx hb dX7_widthOf_39 ?_
      refine lv_aload_n hx hb dX7_widthOf_40 rfl (lv_at hl 2 rfl) ?_
      refine lv_iload_n hx hb dX7_widthOf_41 rfl (lv_at hl 1 rfl) ?_
      refine lv_iload_n hx hb dX7_widthOf_42 rfl (lv_at hl 3 rfl) ?_
      refine lv_iconst (v := 1) hx hb dX7_widthOf_43 (by decide) ?_
      obtain ⟨r_10, hw_11, hf⟩ := q_biE hf
      refine q_cV (As := [.int r_2, .int v1, .int (1 : Int32)]) (rest := [.long (r_6 * r_8)]) (st1 := [.long r_10, .long (r_6 * r_8)]) E hH (tX7_seenAt l D cA z0 h r_2 v1 (1 : Int32) Z M r_10 hw_11) mw_X7_seenAt mi_X7_seenAt (ci := 7) rfl ms_X7_seenAt kM_X7_199 hk_1 hcc rfl rfl rfl hl.1 rfl rfl (Nat.le_of_ble_eq_true rfl) ⟨Nat.le_trans (by decide) hR.1, Nat.le_trans (by decide) hR.2⟩ dX7_widthOf_44 (fun H locs hH => ?_)
      refine lv_aload_n hx hb dX7_widthOf_47 rfl (lv_at hl 2 rfl) ?_
      refine lv_iload_n hx hb dX7_widthOf_48 rfl (lv_at hl 0 rfl) ?_
      refine lv_iload_n hx hb dX7_widthOf_49 rfl (lv_at hl 3 rfl) ?_
      refine lv_iconst (v := 1) hx hb dX7_widthOf_50 (by decide) ?_
      obtain ⟨r_12, hw_13, hf⟩ := q_biE hf
      refine q_cV (As := [.int r_4, .int v1, .int (1 : Int32)]) (rest := [.long r_10, .long (r_6 * r_8)]) (st1 := [.long r_12, .long r_10, .long (r_6 * r_8)]) E hH (tX7_seenAt l D cA z0 h r_4 v1 (1 : Int32) Z M r_12 hw_13) mw_X7_seenAt mi_X7_seenAt (ci := 7) rfl ms_X7_seenAt kM_X7_199 hk_1 hcc rfl rfl rfl hl.1 rfl rfl (Nat.le_of_ble_eq_true rfl) ⟨Nat.le_trans (by decide) hR.1, Nat.le_trans (by decide) hR.2⟩ dX7_widthOf_51 (fun H locs hH => ?_)
      refine lv_lmul hx hb dX7_widthOf_54 ?_
      refine lv_ladd hx hb dX7_widthOf_55 ?_
      refine lv_topl (fun v4_14 hn_15 => ?_)
      replace hf := q_nmE hn_15 hf
      clear hn_15
      refine lv_lstore (lv' := [(4, .long v4_14), (3, .int r_4), (2, .int r_2), (0, .ref h), (1, .int v1)]) hx hb dX7_widthOf_56 hl (by decide) rfl (fun ls hl => ?_)
      refine lv_aload_n hx hb dX7_widthOf_58 rfl (lv_at hl 3 rfl) ?_
      refine lv_iload_n hx hb dX7_widthOf_59 rfl (lv_at hl 2 rfl) ?_
      refine lv_iload_n hx hb dX7_widthOf_60 rfl (lv_at hl 1 rfl) ?_
      refine lv_iload_n hx hb dX7_widthOf_61 rfl (lv_at hl 4 rfl) ?_
      obtain ⟨r_16, hw_17, hf⟩ := q_biE hf
      refine q_cV (As := [.int r_2, .int r_4, .int v1]) (rest := []) (st1 := [.long r_16]) E hH (tX7_turn l D cA z0 h r_2 r_4 v1 Z M r_16 hw_17) mw_X7_turn mi_X7_turn (ci := 7) rfl ms_X7_turn kM_X7_203 hk_1 hcc rfl rfl rfl hl.1 rfl rfl (Nat.le_of_ble_eq_true rfl) ⟨Nat.le_trans (by decide) hR.1, Nat.le_trans (by decide) hR.2⟩ dX7_widthOf_62 (fun H locs hH => ?_)
      refine lv_lstore (lv' := [(6, .long r_16), (4, .long v4_14), (3, .int r_4), (2, .int r_2), (0, .ref h), (1, .int v1)]) hx hb dX7_widthOf_65 hl (by decide) rfl (fun ls hl => ?_)
      refine lv_lload hx hb dX7_widthOf_67 (lv_at hl 0 rfl) ?_
      refine lv_lconst (v := 0) hx hb dX7_widthOf_69 (by decide) ?_
      refine q_lcmp_ge (pc1 := 71) (tgt := 80) hx hb dX7_widthOf_70 rfl dX7_widthOf_71 (by decide) (fun cc_23 => ?_) (fun cc_23 => ?_)
      · replace hf := q_ifT cc_23 hf
        clear cc_23
        refine lv_lload hx hb dX7_widthOf_80 (lv_at hl 0 rfl) ?_
        exact bX7_widthOf_82 E hR hcc h v4_14 r_16 Z M _ _ _ _ hf hH (lv_sub hl [1] rfl)
      · replace hf := q_ifF cc_23 hf
        clear cc_23
        refine lv_lload hx hb dX7_widthOf_74 (lv_at hl 0 rfl) ?_
        refine lv_lneg hx hb dX7_widthOf_76 ?_
        refine lv_goto (tgt := 82) hx hb dX7_widthOf_77 (by decide) ?_
        exact bX7_widthOf_82 E hR hcc h v4_14 (-r_16) Z M _ _ _ _ hf hH (lv_sub hl [1] rfl)
    · replace hf := q_ifF cc_24 hf
      clear cc_24
      exact bX7_widthOf_22 E hR hcc h Z M _ _ _ _ hf hH (lv_sub hl [] rfl)
set_option maxRecDepth 100000 in
theorem tX7_widthOf (l : Launch) (D : va_G) (cA : Nat → ClassId) (z0 : Nat) (h : Nat) (v1 : Int32) (Z : q_Z) (M : q_C) (r : Int32) (hf : fX7_widthOf h v1 Z M = some r) : q_Ct l D cA z0 yX7_widthOf cX7_widthOf 10 (some .int) 5 119 [.ref h, .int v1] Z M (some (.int r)) Z M 0 0 := by
  (refine q_start (plainFor_of_name (by decide)) (Nat.le_of_ble_eq_true rfl) (fun p e s m below meth c H ls E hH hl => ?_); exact bX7_widthOf_0 E ⟨Nat.le_refl _, Nat.le_refl _⟩ ⟨Nat.le_refl _, Nat.le_refl _⟩ h _ Z M H [] ls r hf hH hl)
def fX7_patch_b24 (h : Nat) (s0 : Int32) (Z : q_Z) (M : q_C) : Option (Int32) :=
  some s0
set_option maxHeartbeats 4000000 in
set_option maxRecDepth 100000 in
theorem bX7_patch_24 {cells slots : Nat} (E : q_E p s m meth c cX7_patch 2 RX7 (some .int) "patch" D cA) (hR : 6 ≤ R.frames ∧ 148 ≤ R.locals) (hcc : cells ≤ R.cells ∧ slots ≤ R.slots) (h : Nat) (s0 : Int32) (Z : q_Z) (M : q_C) (H : Heap) (locs : List Loc) (ls : Array Slot) (r : Int32) (hf : fX7_patch_b24 h s0 Z M = some r) (hH : q_Hh D cA z0 s Z M H locs) (hl : lv_has ls 2 [])  : W p l e R s m args below meth c H locs cells slots (MQ below (q_Q D cA z0 (some (.int r)) Z M) args s cells slots (fun q => z0 ≤ q)) (F0 m 24 ls [.int s0]) := by
  have hx := E.1
  have hb := E.2.1
  have hown := E.2.2.2.1
  have hT := E.2.2.2.2.2.2.2.1
  unfold fX7_patch_b24 at hf
  cases hf
  exact q_iret E hH dX7_patch_24
def fX7_patch_b15 (h : Nat) (Z : q_Z) (M : q_C) : Option (Int32) :=
  fX7_patch_b24 h (-1 : Int32) Z M
set_option maxHeartbeats 4000000 in
set_option maxRecDepth 100000 in
theorem bX7_patch_15 {cells slots : Nat} (E : q_E p s m meth c cX7_patch 2 RX7 (some .int) "patch" D cA) (hR : 6 ≤ R.frames ∧ 148 ≤ R.locals) (hcc : cells ≤ R.cells ∧ slots ≤ R.slots) (h : Nat) (Z : q_Z) (M : q_C) (H : Heap) (locs : List Loc) (ls : Array Slot) (r : Int32) (hf : fX7_patch_b15 h Z M = some r) (hH : q_Hh D cA z0 s Z M H locs) (hl : lv_has ls 2 [])  : W p l e R s m args below meth c H locs cells slots (MQ below (q_Q D cA z0 (some (.int r)) Z M) args s cells slots (fun q => z0 ≤ q)) (F0 m 15 ls []) := by
  have hx := E.1
  have hb := E.2.1
  have hown := E.2.2.2.1
  have hT := E.2.2.2.2.2.2.2.1
  unfold fX7_patch_b15 at hf
  refine lv_iconst (v := -1) hx hb dX7_patch_15 (by decide) ?_
  refine lv_goto (tgt := 24) hx hb dX7_patch_16 (by decide) ?_
  exact bX7_patch_24 E hR hcc h (-1 : Int32) Z M _ _ _ _ hf hH (lv_sub hl [] rfl)
def fX7_patch (h : Nat) (v1 : Int32) (Z : q_Z) (M : q_C) : Option (Int32) :=
  Option.bind (fX7_isStep v1) fun r_1 =>
  if r_1 = 0 then
    fX7_patch_b15 h Z M
  else
    q_gd (zK Z h == 17) <|
    Option.bind (fX7_isSome h v1 Z M) fun r_4 =>
    if r_4 = 0 then
      fX7_patch_b15 h Z M
    else
      Option.bind (fX7_widthOf h v1 Z M) fun r_6 =>
      fX7_patch_b24 h r_6 Z M
set_option maxHeartbeats 4000000 in
set_option maxRecDepth 100000 in
theorem bX7_patch_0 {cells slots : Nat} (E : q_E p s m meth c cX7_patch 2 RX7 (some .int) "patch" D cA) (hR : 6 ≤ R.frames ∧ 148 ≤ R.locals) (hcc : cells ≤ R.cells ∧ slots ≤ R.slots) (h : Nat) (v1 : Int32) (Z : q_Z) (M : q_C) (H : Heap) (locs : List Loc) (ls : Array Slot) (r : Int32) (hf : fX7_patch h v1 Z M = some r) (hH : q_Hh D cA z0 s Z M H locs) (hl : lv_has ls 2 [(0, .ref h), (1, .int v1)])  : W p l e R s m args below meth c H locs cells slots (MQ below (q_Q D cA z0 (some (.int r)) Z M) args s cells slots (fun q => z0 ≤ q)) (F0 m 0 ls []) := by
  have hx := E.1
  have hb := E.2.1
  have hown := E.2.2.2.1
  have hT := E.2.2.2.2.2.2.2.1
  unfold fX7_patch at hf
  refine lv_iload_n hx hb dX7_patch_0 rfl (lv_at hl 1 rfl) ?_
  obtain ⟨r_1, hw_2, hf⟩ := q_biE hf
  refine q_cS (As := [.int v1]) (rest := []) (st1 := [.int r_1]) E hH (tX7_isStep l D cA z0 Z M v1 r_1 hw_2) mw_X7_isStep mi_X7_isStep kM_X7_110 hcc rfl rfl rfl hl.1 rfl rfl (Nat.le_of_ble_eq_true rfl) ⟨Nat.le_trans (by decide) hR.1, Nat.le_trans (by decide) hR.2⟩ dX7_patch_1 (fun H locs hH => ?_)
  refine lv_if_eq (tgt := 15) hx hb dX7_patch_4 (by decide) (fun cc_9 => ?_) (fun cc_9 => ?_)
  · replace hf := q_ifT cc_9 hf
    clear cc_9
    exact bX7_patch_15 E hR hcc h Z M _ _ _ _ hf hH (lv_sub hl [] rfl)
  · replace hf := q_ifF cc_9 hf
    clear cc_9
    refine lv_aload_n hx hb dX7_patch_7 rfl (lv_at hl 0 rfl) ?_
    refine lv_iload_n hx hb dX7_patch_8 rfl (lv_at hl 1 rfl) ?_
    obtain ⟨hk_3, hf⟩ := q_gdE hf
    have hk_3 := q_keq hk_3
    obtain ⟨r_4, hw_5, hf⟩ := q_biE hf
    refine q_cV (As := [.int v1]) (rest := []) (st1 := [.int r_4]) E hH (tX7_isSome l D cA z0 h v1 Z M r_4 hw_5) mw_X7_isSome mi_X7_isSome (ci := 7) rfl ms_X7_isSome kM_X7_213 hk_3 hcc rfl rfl rfl hl.1 rfl rfl (Nat.le_of_ble_eq_true rfl) ⟨Nat.le_trans (by decide) hR.1, Nat.le_trans (by decide) hR.2⟩ dX7_patch_9 (fun H locs hH => ?_)
    refine lv_if_ne (tgt := 19) hx hb dX7_patch_12 (by decide) (fun cc_8 => ?_) (fun cc_8 => ?_)
    · replace hf := q_ifF cc_8 hf
      clear cc_8
      refine lv_aload_n hx hb dX7_patch_19 rfl (lv_at hl 0 rfl) ?_
      refine lv_iload_n hx hb dX7_patch_20 rfl (lv_at hl 1 rfl) ?_
      obtain ⟨r_6, hw_7, hf⟩ := q_biE hf
      refine q_cV (As := [.int v1]) (rest := []) (st1 := [.int r_6]) E hH (tX7_widthOf l D cA z0 h v1 Z M r_6 hw_7) mw_X7_widthOf mi_X7_widthOf (ci := 7) rfl ms_X7_widthOf kM_X7_216 hk_3 hcc rfl rfl rfl hl.1 rfl rfl (Nat.le_of_ble_eq_true rfl) ⟨Nat.le_trans (by decide) hR.1, Nat.le_trans (by decide) hR.2⟩ dX7_patch_21 (fun H locs hH => ?_)
      exact bX7_patch_24 E hR hcc h r_6 Z M _ _ _ _ hf hH (lv_sub hl [] rfl)
    · replace hf := q_ifT cc_8 hf
      clear cc_8
      exact bX7_patch_15 E hR hcc h Z M _ _ _ _ hf hH (lv_sub hl [] rfl)
set_option maxRecDepth 100000 in
theorem tX7_patch (l : Launch) (D : va_G) (cA : Nat → ClassId) (z0 : Nat) (h : Nat) (v1 : Int32) (Z : q_Z) (M : q_C) (r : Int32) (hf : fX7_patch h v1 Z M = some r) : q_Ct l D cA z0 yX7_patch cX7_patch 2 (some .int) 6 148 [.ref h, .int v1] Z M (some (.int r)) Z M 0 0 := by
  (refine q_start (plainFor_of_name (by decide)) (Nat.le_of_ble_eq_true rfl) (fun p e s m below meth c H ls E hH hl => ?_); exact bX7_patch_0 E ⟨Nat.le_refl _, Nat.le_refl _⟩ ⟨Nat.le_refl _, Nat.le_refl _⟩ h _ Z M H [] ls r hf hH hl)
def fX7_side_b25 (h : Nat) (s0 : Int32) (Z : q_Z) (M : q_C) : Option (Int32) :=
  some s0
set_option maxHeartbeats 4000000 in
set_option maxRecDepth 100000 in
theorem bX7_side_25 {cells slots : Nat} (E : q_E p s m meth c cX7_side 3 RX7 (some .int) "side" D cA) (hR : 5 ≤ R.frames ∧ 119 ≤ R.locals) (hcc : cells ≤ R.cells ∧ slots ≤ R.slots) (h : Nat) (s0 : Int32) (Z : q_Z) (M : q_C) (H : Heap) (locs : List Loc) (ls : Array Slot) (r : Int32) (hf : fX7_side_b25 h s0 Z M = some r) (hH : q_Hh D cA z0 s Z M H locs) (hl : lv_has ls 3 [])  : W p l e R s m args below meth c H locs cells slots (MQ below (q_Q D cA z0 (some (.int r)) Z M) args s cells slots (fun q => z0 ≤ q)) (F0 m 25 ls [.int s0]) := by
  have hx := E.1
  have hb := E.2.1
  have hown := E.2.2.2.1
  have hT := E.2.2.2.2.2.2.2.1
  unfold fX7_side_b25 at hf
  cases hf
  exact q_iret E hH dX7_side_25
def fX7_side_b15 (h : Nat) (Z : q_Z) (M : q_C) : Option (Int32) :=
  fX7_side_b25 h (-1 : Int32) Z M
set_option maxHeartbeats 4000000 in
set_option maxRecDepth 100000 in
theorem bX7_side_15 {cells slots : Nat} (E : q_E p s m meth c cX7_side 3 RX7 (some .int) "side" D cA) (hR : 5 ≤ R.frames ∧ 119 ≤ R.locals) (hcc : cells ≤ R.cells ∧ slots ≤ R.slots) (h : Nat) (Z : q_Z) (M : q_C) (H : Heap) (locs : List Loc) (ls : Array Slot) (r : Int32) (hf : fX7_side_b15 h Z M = some r) (hH : q_Hh D cA z0 s Z M H locs) (hl : lv_has ls 3 [])  : W p l e R s m args below meth c H locs cells slots (MQ below (q_Q D cA z0 (some (.int r)) Z M) args s cells slots (fun q => z0 ≤ q)) (F0 m 15 ls []) := by
  have hx := E.1
  have hb := E.2.1
  have hown := E.2.2.2.1
  have hT := E.2.2.2.2.2.2.2.1
  unfold fX7_side_b15 at hf
  refine lv_iconst (v := -1) hx hb dX7_side_15 (by decide) ?_
  refine lv_goto (tgt := 25) hx hb dX7_side_16 (by decide) ?_
  exact bX7_side_25 E hR hcc h (-1 : Int32) Z M _ _ _ _ hf hH (lv_sub hl [] rfl)
def fX7_side (h : Nat) (v1 : Int32) (v2 : Int32) (Z : q_Z) (M : q_C) : Option (Int32) :=
  Option.bind (fX7_isStep v1) fun r_1 =>
  if r_1 = 0 then
    fX7_side_b15 h Z M
  else
    q_gd (zK Z h == 17) <|
    Option.bind (fX7_isSome h v1 Z M) fun r_4 =>
    if r_4 = 0 then
      fX7_side_b15 h Z M
    else
      Option.bind (fX7_sideOf h v1 v2 Z M) fun r_6 =>
      fX7_side_b25 h r_6 Z M
set_option maxHeartbeats 4000000 in
set_option maxRecDepth 100000 in
theorem bX7_side_0 {cells slots : Nat} (E : q_E p s m meth c cX7_side 3 RX7 (some .int) "side" D cA) (hR : 5 ≤ R.frames ∧ 119 ≤ R.locals) (hcc : cells ≤ R.cells ∧ slots ≤ R.slots) (h : Nat) (v1 : Int32) (v2 : Int32) (Z : q_Z) (M : q_C) (H : Heap) (locs : List Loc) (ls : Array Slot) (r : Int32) (hf : fX7_side h v1 v2 Z M = some r) (hH : q_Hh D cA z0 s Z M H locs) (hl : lv_has ls 3 [(0, .ref h), (1, .int v1), (2, .int v2)])  : W p l e R s m args below meth c H locs cells slots (MQ below (q_Q D cA z0 (some (.int r)) Z M) args s cells slots (fun q => z0 ≤ q)) (F0 m 0 ls []) := by
  have hx := E.1
  have hb := E.2.1
  have hown := E.2.2.2.1
  have hT := E.2.2.2.2.2.2.2.1
  unfold fX7_side at hf
  refine lv_iload_n hx hb dX7_side_0 rfl (lv_at hl 1 rfl) ?_
  obtain ⟨r_1, hw_2, hf⟩ := q_biE hf
  refine q_cS (As := [.int v1]) (rest := []) (st1 := [.int r_1]) E hH (tX7_isStep l D cA z0 Z M v1 r_1 hw_2) mw_X7_isStep mi_X7_isStep kM_X7_110 hcc rfl rfl rfl hl.1 rfl rfl (Nat.le_of_ble_eq_true rfl) ⟨Nat.le_trans (by decide) hR.1, Nat.le_trans (by decide) hR.2⟩ dX7_side_1 (fun H locs hH => ?_)
  refine lv_if_eq (tgt := 15) hx hb dX7_side_4 (by decide) (fun cc_9 => ?_) (fun cc_9 => ?_)
  · replace hf := q_ifT cc_9 hf
    clear cc_9
    exact bX7_side_15 E hR hcc h Z M _ _ _ _ hf hH (lv_sub hl [] rfl)
  · replace hf := q_ifF cc_9 hf
    clear cc_9
    refine lv_aload_n hx hb dX7_side_7 rfl (lv_at hl 0 rfl) ?_
    refine lv_iload_n hx hb dX7_side_8 rfl (lv_at hl 1 rfl) ?_
    obtain ⟨hk_3, hf⟩ := q_gdE hf
    have hk_3 := q_keq hk_3
    obtain ⟨r_4, hw_5, hf⟩ := q_biE hf
    refine q_cV (As := [.int v1]) (rest := []) (st1 := [.int r_4]) E hH (tX7_isSome l D cA z0 h v1 Z M r_4 hw_5) mw_X7_isSome mi_X7_isSome (ci := 7) rfl ms_X7_isSome kM_X7_213 hk_3 hcc rfl rfl rfl hl.1 rfl rfl (Nat.le_of_ble_eq_true rfl) ⟨Nat.le_trans (by decide) hR.1, Nat.le_trans (by decide) hR.2⟩ dX7_side_9 (fun H locs hH => ?_)
    refine lv_if_ne (tgt := 19) hx hb dX7_side_12 (by decide) (fun cc_8 => ?_) (fun cc_8 => ?_)
    · replace hf := q_ifF cc_8 hf
      clear cc_8
      refine lv_aload_n hx hb dX7_side_19 rfl (lv_at hl 0 rfl) ?_
      refine lv_iload_n hx hb dX7_side_20 rfl (lv_at hl 1 rfl) ?_
      refine lv_iload_n hx hb dX7_side_21 rfl (lv_at hl 2 rfl) ?_
      obtain ⟨r_6, hw_7, hf⟩ := q_biE hf
      refine q_cV (As := [.int v1, .int v2]) (rest := []) (st1 := [.int r_6]) E hH (tX7_sideOf l D cA z0 h v1 v2 Z M r_6 hw_7) mw_X7_sideOf mi_X7_sideOf (ci := 7) rfl ms_X7_sideOf kM_X7_206 hk_3 hcc rfl rfl rfl hl.1 rfl rfl (Nat.le_of_ble_eq_true rfl) ⟨Nat.le_trans (by decide) hR.1, Nat.le_trans (by decide) hR.2⟩ dX7_side_22 (fun H locs hH => ?_)
      exact bX7_side_25 E hR hcc h r_6 Z M _ _ _ _ hf hH (lv_sub hl [] rfl)
    · replace hf := q_ifT cc_8 hf
      clear cc_8
      exact bX7_side_15 E hR hcc h Z M _ _ _ _ hf hH (lv_sub hl [] rfl)
set_option maxRecDepth 100000 in
theorem tX7_side (l : Launch) (D : va_G) (cA : Nat → ClassId) (z0 : Nat) (h : Nat) (v1 : Int32) (v2 : Int32) (Z : q_Z) (M : q_C) (r : Int32) (hf : fX7_side h v1 v2 Z M = some r) : q_Ct l D cA z0 yX7_side cX7_side 3 (some .int) 5 119 [.ref h, .int v1, .int v2] Z M (some (.int r)) Z M 0 0 := by
  (refine q_start (plainFor_of_name (by decide)) (Nat.le_of_ble_eq_true rfl) (fun p e s m below meth c H ls E hH hl => ?_); exact bX7_side_0 E ⟨Nat.le_refl _, Nat.le_refl _⟩ ⟨Nat.le_refl _, Nat.le_refl _⟩ h _ _ Z M H [] ls r hf hH hl)
def fX7_tells_b19 (h : Nat) (Z : q_Z) (M : q_C) : Option (Int32) :=
  some (-1000 : Int32)
set_option maxHeartbeats 4000000 in
set_option maxRecDepth 100000 in
theorem bX7_tells_19 {cells slots : Nat} (E : q_E p s m meth c cX7_tells 10 RX7 (some .int) "tells" D cA) (hR : 6 ≤ R.frames ∧ 148 ≤ R.locals) (hcc : cells ≤ R.cells ∧ slots ≤ R.slots) (h : Nat) (Z : q_Z) (M : q_C) (H : Heap) (locs : List Loc) (ls : Array Slot) (r : Int32) (hf : fX7_tells_b19 h Z M = some r) (hH : q_Hh D cA z0 s Z M H locs) (hl : lv_has ls 10 [])  : W p l e R s m args below meth c H locs cells slots (MQ below (q_Q D cA z0 (some (.int r)) Z M) args s cells slots (fun q => z0 ≤ q)) (F0 m 19 ls []) := by
  have hx := E.1
  have hb := E.2.1
  have hown := E.2.2.2.1
  have hT := E.2.2.2.2.2.2.2.1
  unfold fX7_tells_b19 at hf
  refine lv_sipush (v := -1000) hx hb dX7_tells_19 (by decide) ?_
  cases hf
  exact q_iret E hH dX7_tells_22
def fX7_tells_b97 (h : Nat) (v2 : Int32) (v3 : Int32) (v4 : Int64) (v6 : Int32) (Z : q_Z) (M : q_C) : Option ((Int32 × Int64 × Int32) ⊕ Int32) :=
  q_nm (v6 + (1 : Int32)) fun v6_10 =>
  some (Sum.inl (v3, v4, v6_10))
set_option maxHeartbeats 4000000 in
set_option maxRecDepth 100000 in
theorem bX7_tells_97 {cells slots : Nat} {Q : State → Prop} (E : q_E p s m meth c cX7_tells 10 RX7 (some .int) "tells" D cA) (hR : 6 ≤ R.frames ∧ 148 ≤ R.locals) (hcc : cells ≤ R.cells ∧ slots ≤ R.slots) (h : Nat) (v2 : Int32) (v3 : Int32) (v4 : Int64) (v6 : Int32) (Z : q_Z) (M : q_C) (H : Heap) (locs : List Loc) (ls : Array Slot) (o : (Int32 × Int64 × Int32) ⊕ Int32) (hf : fX7_tells_b97 h v2 v3 v4 v6 Z M = some o) (hH : q_Hh D cA z0 s Z M H locs) (hl : lv_has ls 10 [(0, .ref h), (2, .int v2), (3, .int v3), (4, .long v4), (6, .int v6)]) (kb : ∀ (w3 : Int32) (w4 : Int64) (w6 : Int32) (H : Heap) (locs : List Loc) (ls : Array Slot), Sum.inl (w3, w4, w6) = o → q_Hh D cA z0 s Z M H locs → lv_has ls 10 [(0, .ref h), (2, .int v2), (3, .int w3), (4, .long w4), (6, .int w6)] → W p l e R s m args below meth c H locs cells slots Q (F0 m 35 ls [])) (kx0 : ∀ (w3 : Int32) (H : Heap) (locs : List Loc) (ls : Array Slot), Sum.inr w3 = o → q_Hh D cA z0 s Z M H locs → lv_has ls 10 [(3, .int w3)] → W p l e R s m args below meth c H locs cells slots Q (F0 m 103 ls [])) : W p l e R s m args below meth c H locs cells slots Q (F0 m 97 ls []) := by
  have hx := E.1
  have hb := E.2.1
  have hown := E.2.2.2.1
  have hT := E.2.2.2.2.2.2.2.1
  unfold fX7_tells_b97 at hf
  obtain ⟨v6_10, hn_11⟩ : ∃ y : Int32, y = v6 + (1 : Int32) := ⟨_, rfl⟩
  replace hf := q_nmE hn_11 hf
  refine lv_iinc (v := v6_10) (lv' := [(6, .int v6_10), (0, .ref h), (2, .int v2), (3, .int v3), (4, .long v4)]) hx hb dX7_tells_97 hl (k := 4) rfl (by rw [hn_11]; rfl) (by decide) rfl (fun ls hl => ?_)
  clear hn_11
  refine lv_goto (tgt := 35) hx hb dX7_tells_100 (by decide) ?_
  cases hf
  exact kb v3 v4 v6_10 _ _ _ rfl hH (lv_sub hl [1, 2, 3, 4, 0] rfl)
def fX7_tells_b77 (h : Nat) (v2 : Int32) (v3 : Int32) (v4 : Int64) (v6 : Int32) (s0 : Int64) (Z : q_Z) (M : q_C) : Option ((Int32 × Int64 × Int32) ⊕ Int32) :=
  if v4 < s0 then
    fX7_tells_b97 h v2 v6 s0 v6 Z M
  else
    fX7_tells_b97 h v2 v3 v4 v6 Z M
set_option maxHeartbeats 4000000 in
set_option maxRecDepth 100000 in
theorem bX7_tells_77 {cells slots : Nat} {Q : State → Prop} (E : q_E p s m meth c cX7_tells 10 RX7 (some .int) "tells" D cA) (hR : 6 ≤ R.frames ∧ 148 ≤ R.locals) (hcc : cells ≤ R.cells ∧ slots ≤ R.slots) (h : Nat) (v2 : Int32) (v3 : Int32) (v4 : Int64) (v6 : Int32) (s0 : Int64) (Z : q_Z) (M : q_C) (H : Heap) (locs : List Loc) (ls : Array Slot) (o : (Int32 × Int64 × Int32) ⊕ Int32) (hf : fX7_tells_b77 h v2 v3 v4 v6 s0 Z M = some o) (hH : q_Hh D cA z0 s Z M H locs) (hl : lv_has ls 10 [(0, .ref h), (2, .int v2), (3, .int v3), (4, .long v4), (6, .int v6)]) (kb : ∀ (w3 : Int32) (w4 : Int64) (w6 : Int32) (H : Heap) (locs : List Loc) (ls : Array Slot), Sum.inl (w3, w4, w6) = o → q_Hh D cA z0 s Z M H locs → lv_has ls 10 [(0, .ref h), (2, .int v2), (3, .int w3), (4, .long w4), (6, .int w6)] → W p l e R s m args below meth c H locs cells slots Q (F0 m 35 ls [])) (kx0 : ∀ (w3 : Int32) (H : Heap) (locs : List Loc) (ls : Array Slot), Sum.inr w3 = o → q_Hh D cA z0 s Z M H locs → lv_has ls 10 [(3, .int w3)] → W p l e R s m args below meth c H locs cells slots Q (F0 m 103 ls [])) : W p l e R s m args below meth c H locs cells slots Q (F0 m 77 ls [.long s0]) := by
  have hx := E.1
  have hb := E.2.1
  have hown := E.2.2.2.1
  have hT := E.2.2.2.2.2.2.2.1
  unfold fX7_tells_b77 at hf
  refine lv_lstore (lv' := [(8, .long s0), (0, .ref h), (2, .int v2), (3, .int v3), (4, .long v4), (6, .int v6)]) hx hb dX7_tells_77 hl (by decide) rfl (fun ls hl => ?_)
  refine lv_lload hx hb dX7_tells_79 (lv_at hl 0 rfl) ?_
  refine lv_lload hx hb dX7_tells_81 (lv_at hl 4 rfl) ?_
  refine q_lcmp_gt (pc1 := 84) (tgt := 90) hx hb dX7_tells_83 rfl dX7_tells_84 (by decide) (fun cc_12 => ?_) (fun cc_12 => ?_)
  · replace hf := q_ifT cc_12 hf
    clear cc_12
    refine lv_lload hx hb dX7_tells_90 (lv_at hl 0 rfl) ?_
    refine lv_lstore (lv' := [(4, .long s0), (8, .long s0), (0, .ref h), (2, .int v2), (3, .int v3), (6, .int v6)]) hx hb dX7_tells_92 hl (by decide) rfl (fun ls hl => ?_)
    refine lv_iload hx hb dX7_tells_94 (lv_at hl 5 rfl) ?_
    refine lv_istore_n (lv' := [(3, .int v6), (4, .long s0), (8, .long s0), (0, .ref h), (2, .int v2), (6, .int v6)]) hx hb dX7_tells_96 rfl hl (by decide) rfl (fun ls hl => ?_)
    exact bX7_tells_97 E hR hcc h v2 v6 s0 v6 Z M _ _ _ _ hf hH (lv_sub hl [3, 4, 0, 1, 5] rfl) kb kx0
  · replace hf := q_ifF cc_12 hf
    clear cc_12
    refine lv_goto (tgt := 97) hx hb dX7_tells_87 (by decide) ?_
    exact bX7_tells_97 E hR hcc h v2 v3 v4 v6 Z M _ _ _ _ hf hH (lv_sub hl [1, 2, 3, 4, 5] rfl) kb kx0
def fX7_tells_L35 (h : Nat) (v2 : Int32) (v3 : Int32) (v4 : Int64) (v6 : Int32) (Z : q_Z) (M : q_C) : Option ((Int32 × Int64 × Int32) ⊕ Int32) :=
  if v2 < v6 then
    some (Sum.inr v3)
  else
    q_gd (zK Z h == 17) <|
    Option.bind (fX7_isSome h v6 Z M) fun r_6 =>
    if r_6 = 0 then
      fX7_tells_b97 h v2 v3 v4 v6 Z M
    else
      Option.bind (fX7_widthOf h v6 Z M) fun r_8 =>
      if r_8 = (-2 : Int32) then
        fX7_tells_b77 h v2 v3 v4 v6 (1099511627776 : Int64) Z M
      else
        fX7_tells_b77 h v2 v3 v4 v6 r_8.toInt64 Z M
set_option maxHeartbeats 4000000 in
set_option maxRecDepth 100000 in
theorem lX7_tells_35 {cells slots : Nat} {Q : State → Prop} (E : q_E p s m meth c cX7_tells 10 RX7 (some .int) "tells" D cA) (hR : 6 ≤ R.frames ∧ 148 ≤ R.locals) (hcc : cells ≤ R.cells ∧ slots ≤ R.slots)  (h : Nat) (v2 : Int32) (Z : q_Z) (M : q_C) : ∀ (n : Nat) (v3 : Int32) (v4 : Int64) (v6 : Int32) (H : Heap) (locs : List Loc) (ls : Array Slot) (r : Int32), q_it (fun x => fX7_tells_L35 h v2 x.1 x.2.1 x.2.2 Z M) n (v3, v4, v6) = some r → q_Hh D cA z0 s Z M H locs → lv_has ls 10 [(0, .ref h), (2, .int v2), (3, .int v3), (4, .long v4), (6, .int v6)] → (kx0 : ∀ (w3 : Int32) (H : Heap) (locs : List Loc) (ls : Array Slot), w3 = r → q_Hh D cA z0 s Z M H locs → lv_has ls 10 [(3, .int w3)] → W p l e R s m args below meth c H locs cells slots Q (F0 m 103 ls [])) → W p l e R s m args below meth c H locs cells slots Q (F0 m 35 ls []) := by
  have hx := E.1
  have hb := E.2.1
  have hown := E.2.2.2.1
  have hT := E.2.2.2.2.2.2.2.1
  intro n
  induction n with
  | zero =>
    intro v3 v4 v6 H locs ls r hf
    cases hf
  | succ n ih =>
    intro v3 v4 v6 H locs ls r hf hH hl ky0
    obtain ⟨n1, o, hn, hf, ho⟩ := q_itE hf
    cases hn
    have hf : fX7_tells_L35 h v2 v3 v4 v6 Z M = some o := hf
    have kb : ∀ (w3 : Int32) (w4 : Int64) (w6 : Int32) (H : Heap) (locs : List Loc) (ls : Array Slot), Sum.inl (w3, w4, w6) = o → q_Hh D cA z0 s Z M H locs → lv_has ls 10 [(0, .ref h), (2, .int v2), (3, .int w3), (4, .long w4), (6, .int w6)] → W p l e R s m args below meth c H locs cells slots Q (F0 m 35 ls []) := by
      intro w3 w4 w6 H locs ls e hH hl
      subst e
      exact ih w3 w4 w6 H locs ls r ho hH hl ky0
    have kx0 : ∀ (w3 : Int32) (H : Heap) (locs : List Loc) (ls : Array Slot), Sum.inr w3 = o → q_Hh D cA z0 s Z M H locs → lv_has ls 10 [(3, .int w3)] → W p l e R s m args below meth c H locs cells slots Q (F0 m 103 ls []) := by
      intro w3 H locs ls e hH hl
      subst e
      exact ky0 w3 H locs ls ho hH hl
    unfold fX7_tells_L35 at hf
    refine lv_iload hx hb dX7_tells_35 (lv_at hl 4 rfl) ?_
    refine lv_iload_n hx hb dX7_tells_37 rfl (lv_at hl 1 rfl) ?_
    refine lv_icmp_gt (tgt := 103) hx hb dX7_tells_38 (by decide) (fun cc_15 => ?_) (fun cc_15 => ?_)
    · replace hf := q_ifT cc_15 hf
      clear cc_15
      cases hf
      exact kx0 v3 _ _ _ rfl hH (lv_sub hl [2] rfl)
    · replace hf := q_ifF cc_15 hf
      clear cc_15
      refine lv_aload_n hx hb dX7_tells_41 rfl (lv_at hl 0 rfl) ?_
      refine lv_iload hx hb dX7_tells_42 (lv_at hl 4 rfl) ?_
      obtain ⟨hk_5, hf⟩ := q_gdE hf
      have hk_5 := q_keq hk_5
      obtain ⟨r_6, hw_7, hf⟩ := q_biE hf
      refine q_cV (As := [.int v6]) (rest := []) (st1 := [.int r_6]) E hH (tX7_isSome l D cA z0 h v6 Z M r_6 hw_7) mw_X7_isSome mi_X7_isSome (ci := 7) rfl ms_X7_isSome kM_X7_213 hk_5 hcc rfl rfl rfl hl.1 rfl rfl (Nat.le_of_ble_eq_true rfl) ⟨Nat.le_trans (by decide) hR.1, Nat.le_trans (by decide) hR.2⟩ dX7_tells_44 (fun H locs hH => ?_)
      refine lv_if_ne (tgt := 53) hx hb dX7_tells_47 (by decide) (fun cc_14 => ?_) (fun cc_14 => ?_)
      · replace hf := q_ifF cc_14 hf
        clear cc_14
        refine lv_aload_n hx hb dX7_tells_53 rfl (lv_at hl 0 rfl) ?_
        refine lv_iload hx hb dX7_tells_54 (lv_at hl 4 rfl) ?_
        obtain ⟨r_8, hw_9, hf⟩ := q_biE hf
        refine q_cV (As := [.int v6]) (rest := []) (st1 := [.int r_8]) E hH (tX7_widthOf l D cA z0 h v6 Z M r_8 hw_9) mw_X7_widthOf mi_X7_widthOf (ci := 7) rfl ms_X7_widthOf kM_X7_216 hk_5 hcc rfl rfl rfl hl.1 rfl rfl (Nat.le_of_ble_eq_true rfl) ⟨Nat.le_trans (by decide) hR.1, Nat.le_trans (by decide) hR.2⟩ dX7_tells_56 (fun H locs hH => ?_)
        refine lv_istore (lv' := [(7, .int r_8), (0, .ref h), (2, .int v2), (3, .int v3), (4, .long v4), (6, .int v6)]) hx hb dX7_tells_59 hl (by decide) rfl (fun ls hl => ?_)
        refine lv_iload hx hb dX7_tells_61 (lv_at hl 0 rfl) ?_
        refine lv_bipush (v := -2) hx hb dX7_tells_63 (by decide) ?_
        refine lv_icmp_ne (tgt := 74) hx hb dX7_tells_65 (by decide) (fun cc_13 => ?_) (fun cc_13 => ?_)
        · replace hf := q_ifF cc_13 hf
          clear cc_13
          refine lv_iload hx hb dX7_tells_74 (lv_at hl 0 rfl) ?_
          refine lv_i2l hx hb dX7_tells_76 rfl ?_
          exact bX7_tells_77 E hR hcc h v2 v3 v4 v6 r_8.toInt64 Z M _ _ _ _ hf hH (lv_sub hl [1, 2, 3, 4, 5] rfl) kb kx0
        · replace hf := q_ifT cc_13 hf
          clear cc_13
          refine lv_ldc2 hx hb hown (hT.1 _ _ kK_X7_222) dX7_tells_68 ?_
          refine lv_goto (tgt := 77) hx hb dX7_tells_71 (by decide) ?_
          exact bX7_tells_77 E hR hcc h v2 v3 v4 v6 (1099511627776 : Int64) Z M _ _ _ _ hf hH (lv_sub hl [1, 2, 3, 4, 5] rfl) kb kx0
      · replace hf := q_ifT cc_14 hf
        clear cc_14
        refine lv_goto (tgt := 97) hx hb dX7_tells_50 (by decide) ?_
        exact bX7_tells_97 E hR hcc h v2 v3 v4 v6 Z M _ _ _ _ hf hH (lv_sub hl [0, 1, 2, 3, 4] rfl) kb kx0
def fX7_tells (h : Nat) (v1 : Int32) (v2 : Int32) (Z : q_Z) (M : q_C) : Option (Int32) :=
  Option.bind (fX7_isStep v1) fun r_1 =>
  if r_1 = 0 then
    fX7_tells_b19 h Z M
  else
    Option.bind (fX7_isStep v2) fun r_3 =>
    if r_3 = 0 then
      fX7_tells_b19 h Z M
    else
      if v1 ≤ v2 then
        Option.bind (q_it (fun x => fX7_tells_L35 h v2 x.1 x.2.1 x.2.2 Z M) q_FU ((-1000 : Int32), (-1 : Int64), v1)) fun r_16 =>
        q_nm r_16 fun v3_18 =>
        some v3_18
      else
        fX7_tells_b19 h Z M
set_option maxHeartbeats 4000000 in
set_option maxRecDepth 100000 in
theorem bX7_tells_0 {cells slots : Nat} (E : q_E p s m meth c cX7_tells 10 RX7 (some .int) "tells" D cA) (hR : 6 ≤ R.frames ∧ 148 ≤ R.locals) (hcc : cells ≤ R.cells ∧ slots ≤ R.slots) (h : Nat) (v1 : Int32) (v2 : Int32) (Z : q_Z) (M : q_C) (H : Heap) (locs : List Loc) (ls : Array Slot) (r : Int32) (hf : fX7_tells h v1 v2 Z M = some r) (hH : q_Hh D cA z0 s Z M H locs) (hl : lv_has ls 10 [(0, .ref h), (1, .int v1), (2, .int v2)])  : W p l e R s m args below meth c H locs cells slots (MQ below (q_Q D cA z0 (some (.int r)) Z M) args s cells slots (fun q => z0 ≤ q)) (F0 m 0 ls []) := by
  have hx := E.1
  have hb := E.2.1
  have hown := E.2.2.2.1
  have hT := E.2.2.2.2.2.2.2.1
  unfold fX7_tells at hf
  refine lv_iload_n hx hb dX7_tells_0 rfl (lv_at hl 1 rfl) ?_
  obtain ⟨r_1, hw_2, hf⟩ := q_biE hf
  refine q_cS (As := [.int v1]) (rest := []) (st1 := [.int r_1]) E hH (tX7_isStep l D cA z0 Z M v1 r_1 hw_2) mw_X7_isStep mi_X7_isStep kM_X7_110 hcc rfl rfl rfl hl.1 rfl rfl (Nat.le_of_ble_eq_true rfl) ⟨Nat.le_trans (by decide) hR.1, Nat.le_trans (by decide) hR.2⟩ dX7_tells_1 (fun H locs hH => ?_)
  refine lv_if_eq (tgt := 19) hx hb dX7_tells_4 (by decide) (fun cc_22 => ?_) (fun cc_22 => ?_)
  · replace hf := q_ifT cc_22 hf
    clear cc_22
    exact bX7_tells_19 E hR hcc h Z M _ _ _ _ hf hH (lv_sub hl [] rfl)
  · replace hf := q_ifF cc_22 hf
    clear cc_22
    refine lv_iload_n hx hb dX7_tells_7 rfl (lv_at hl 2 rfl) ?_
    obtain ⟨r_3, hw_4, hf⟩ := q_biE hf
    refine q_cS (As := [.int v2]) (rest := []) (st1 := [.int r_3]) E hH (tX7_isStep l D cA z0 Z M v2 r_3 hw_4) mw_X7_isStep mi_X7_isStep kM_X7_110 hcc rfl rfl rfl hl.1 rfl rfl (Nat.le_of_ble_eq_true rfl) ⟨Nat.le_trans (by decide) hR.1, Nat.le_trans (by decide) hR.2⟩ dX7_tells_8 (fun H locs hH => ?_)
    refine lv_if_eq (tgt := 19) hx hb dX7_tells_11 (by decide) (fun cc_21 => ?_) (fun cc_21 => ?_)
    · replace hf := q_ifT cc_21 hf
      clear cc_21
      exact bX7_tells_19 E hR hcc h Z M _ _ _ _ hf hH (lv_sub hl [] rfl)
    · replace hf := q_ifF cc_21 hf
      clear cc_21
      refine lv_iload_n hx hb dX7_tells_14 rfl (lv_at hl 1 rfl) ?_
      refine lv_iload_n hx hb dX7_tells_15 rfl (lv_at hl 2 rfl) ?_
      refine lv_icmp_le (tgt := 23) hx hb dX7_tells_16 (by decide) (fun cc_20 => ?_) (fun cc_20 => ?_)
      · replace hf := q_ifT cc_20 hf
        clear cc_20
        refine lv_sipush (v := -1000) hx hb dX7_tells_23 (by decide) ?_
        refine lv_istore_n (lv' := [(3, .int (-1000 : Int32)), (0, .ref h), (1, .int v1), (2, .int v2)]) hx hb dX7_tells_26 rfl hl (by decide) rfl (fun ls hl => ?_)
        refine lv_ldc2 hx hb hown (hT.1 _ _ kK_X7_220) dX7_tells_27 ?_
        refine lv_lstore (lv' := [(4, .long (-1 : Int64)), (3, .int (-1000 : Int32)), (0, .ref h), (1, .int v1), (2, .int v2)]) hx hb dX7_tells_30 hl (by decide) rfl (fun ls hl => ?_)
        refine lv_iload_n hx hb dX7_tells_32 rfl (lv_at hl 3 rfl) ?_
        refine lv_istore (lv' := [(6, .int v1), (4, .long (-1 : Int64)), (3, .int (-1000 : Int32)), (0, .ref h), (1, .int v1), (2, .int v2)]) hx hb dX7_tells_33 hl (by decide) rfl (fun ls hl => ?_)
        obtain ⟨r_16, hr_17, hf⟩ := q_biE hf
        refine lX7_tells_35 E hR hcc h v2 Z M q_FU (-1000 : Int32) (-1 : Int64) v1 _ _ _ r_16 hr_17 hH (lv_sub hl [3, 5, 2, 1, 0] rfl) (fun v3_18 H locs ls he_19 hH hl => ?_)
        · subst he_19
          replace hf := q_nmE (x := v3_18) rfl hf
          refine lv_iload_n hx hb dX7_tells_103 rfl (lv_at hl 0 rfl) ?_
          cases hf
          exact q_iret E hH dX7_tells_104
      · replace hf := q_ifF cc_20 hf
        clear cc_20
        exact bX7_tells_19 E hR hcc h Z M _ _ _ _ hf hH (lv_sub hl [] rfl)
set_option maxRecDepth 100000 in
theorem tX7_tells (l : Launch) (D : va_G) (cA : Nat → ClassId) (z0 : Nat) (h : Nat) (v1 : Int32) (v2 : Int32) (Z : q_Z) (M : q_C) (r : Int32) (hf : fX7_tells h v1 v2 Z M = some r) : q_Ct l D cA z0 yX7_tells cX7_tells 10 (some .int) 6 148 [.ref h, .int v1, .int v2] Z M (some (.int r)) Z M 0 0 := by
  (refine q_start (plainFor_of_name (by decide)) (Nat.le_of_ble_eq_true rfl) (fun p e s m below meth c H ls E hH hl => ?_); exact bX7_tells_0 E ⟨Nat.le_refl _, Nat.le_refl _⟩ ⟨Nat.le_refl _, Nat.le_refl _⟩ h _ _ Z M H [] ls r hf hH hl)
def fX7_far (h : Nat) (v1 : Int32) (v2 : Int32) (Z : q_Z) (M : q_C) : Option (Int64) :=
  q_nm ((((601 : Int32) * v1) + v2) + (300 : Int32)) fun v3_1 =>
  q_gd (zK Z h == 17) <|
  Option.bind (gR M h 17) fun a_4 =>
  q_gd (q_ok Z a_4 2 v3_1) <|
  Option.bind (gR M h 17) fun a_7 =>
  q_gd (q_ok Z a_7 2 v3_1) <|
  Option.bind (gR M h 18) fun a_10 =>
  q_gd (q_ok Z a_10 2 v3_1) <|
  Option.bind (gR M h 18) fun a_13 =>
  q_gd (q_ok Z a_13 2 v3_1) <|
  some (((gJ M a_4 v3_1.toNatClampNeg) * (gJ M a_7 v3_1.toNatClampNeg)) + ((gJ M a_10 v3_1.toNatClampNeg) * (gJ M a_13 v3_1.toNatClampNeg)))
set_option maxHeartbeats 4000000 in
set_option maxRecDepth 100000 in
theorem bX7_far_0 {cells slots : Nat} (E : q_E p s m meth c cX7_far 4 RX7 (some .long) "far" D cA) (hR : 0 ≤ R.frames ∧ 0 ≤ R.locals) (hcc : cells ≤ R.cells ∧ slots ≤ R.slots) (h : Nat) (v1 : Int32) (v2 : Int32) (Z : q_Z) (M : q_C) (H : Heap) (locs : List Loc) (ls : Array Slot) (r : Int64) (hf : fX7_far h v1 v2 Z M = some r) (hH : q_Hh D cA z0 s Z M H locs) (hl : lv_has ls 4 [(0, .ref h), (1, .int v1), (2, .int v2)])  : W p l e R s m args below meth c H locs cells slots (MQ below (q_Q D cA z0 (some (.long r)) Z M) args s cells slots (fun q => z0 ≤ q)) (F0 m 0 ls []) := by
  have hx := E.1
  have hb := E.2.1
  have hown := E.2.2.2.1
  have hT := E.2.2.2.2.2.2.2.1
  unfold fX7_far at hf
  refine lv_sipush (v := 601) hx hb dX7_far_0 (by decide) ?_
  refine lv_iload_n hx hb dX7_far_3 rfl (lv_at hl 1 rfl) ?_
  refine lv_imul hx hb dX7_far_4 ?_
  refine lv_iload_n hx hb dX7_far_5 rfl (lv_at hl 2 rfl) ?_
  refine lv_iadd hx hb dX7_far_6 ?_
  refine lv_sipush (v := 300) hx hb dX7_far_7 (by decide) ?_
  refine lv_iadd hx hb dX7_far_10 ?_
  refine lv_topi (fun v3_1 hn_2 => ?_)
  replace hf := q_nmE hn_2 hf
  clear hn_2
  refine lv_istore_n (lv' := [(3, .int v3_1), (0, .ref h), (1, .int v1), (2, .int v2)]) hx hb dX7_far_11 rfl hl (by decide) rfl (fun ls hl => ?_)
  refine lv_aload_n hx hb dX7_far_12 rfl (lv_at hl 1 rfl) ?_
  obtain ⟨hk_3, hf⟩ := q_gdE hf
  have hk_3 := q_keq hk_3
  refine q_getR E hH (ci := 7) rfl 17 (by decide) kF_X7_63 (fun _ _ _ => rfl) hk_3 dX7_far_13 ?_
  obtain ⟨a_4, he_5, hf⟩ := q_biE hf
  rw [he_5]
  refine lv_iload_n hx hb dX7_far_16 rfl (lv_at hl 0 rfl) ?_
  obtain ⟨hz_6, hf⟩ := q_gdE hf
  refine q_laload E hH hz_6 dX7_far_17 ?_
  refine lv_aload_n hx hb dX7_far_18 rfl (lv_at hl 1 rfl) ?_
  refine q_getR E hH (ci := 7) rfl 17 (by decide) kF_X7_63 (fun _ _ _ => rfl) hk_3 dX7_far_19 ?_
  obtain ⟨a_7, he_8, hf⟩ := q_biE hf
  rw [he_8]
  refine lv_iload_n hx hb dX7_far_22 rfl (lv_at hl 0 rfl) ?_
  obtain ⟨hz_9, hf⟩ := q_gdE hf
  refine q_laload E hH hz_9 dX7_far_23 ?_
  refine lv_lmul hx hb dX7_far_24 ?_
  refine lv_aload_n hx hb dX7_far_25 rfl (lv_at hl 1 rfl) ?_
  refine q_getR E hH (ci := 7) rfl 18 (by decide) kF_X7_67 (fun _ _ _ => rfl) hk_3 dX7_far_26 ?_
  obtain ⟨a_10, he_11, hf⟩ := q_biE hf
  rw [he_11]
  refine lv_iload_n hx hb dX7_far_29 rfl (lv_at hl 0 rfl) ?_
  obtain ⟨hz_12, hf⟩ := q_gdE hf
  refine q_laload E hH hz_12 dX7_far_30 ?_
  refine lv_aload_n hx hb dX7_far_31 rfl (lv_at hl 1 rfl) ?_
  refine q_getR E hH (ci := 7) rfl 18 (by decide) kF_X7_67 (fun _ _ _ => rfl) hk_3 dX7_far_32 ?_
  obtain ⟨a_13, he_14, hf⟩ := q_biE hf
  rw [he_14]
  refine lv_iload_n hx hb dX7_far_35 rfl (lv_at hl 0 rfl) ?_
  obtain ⟨hz_15, hf⟩ := q_gdE hf
  refine q_laload E hH hz_15 dX7_far_36 ?_
  refine lv_lmul hx hb dX7_far_37 ?_
  refine lv_ladd hx hb dX7_far_38 ?_
  cases hf
  exact q_lret E hH dX7_far_39
set_option maxRecDepth 100000 in
theorem tX7_far (l : Launch) (D : va_G) (cA : Nat → ClassId) (z0 : Nat) (h : Nat) (v1 : Int32) (v2 : Int32) (Z : q_Z) (M : q_C) (r : Int64) (hf : fX7_far h v1 v2 Z M = some r) : q_Ct l D cA z0 yX7_far cX7_far 4 (some .long) 0 0 [.ref h, .int v1, .int v2] Z M (some (.long r)) Z M 0 0 := by
  (refine q_start (plainFor_of_name (by decide)) (Nat.le_of_ble_eq_true rfl) (fun p e s m below meth c H ls E hH hl => ?_); exact bX7_far_0 E ⟨Nat.le_refl _, Nat.le_refl _⟩ ⟨Nat.le_refl _, Nat.le_refl _⟩ h _ _ Z M H [] ls r hf hH hl)
def fX7_period_b90 (h : Nat) (v1 : Int32) (v2 : Int32) (v3 : Int32) (Z : q_Z) (M : q_C) : Option ((Int32 × Int32) ⊕ ((Int32 × Int32) ⊕ Unit)) :=
  q_nm (v3 + (1 : Int32)) fun v3_7 =>
  some (Sum.inl (v2, v3_7))
set_option maxHeartbeats 4000000 in
set_option maxRecDepth 100000 in
theorem bX7_period_90 {cells slots : Nat} {Q : State → Prop} (E : q_E p s m meth c cX7_period 4 RX7 (some .int) "period" D cA) (hR : 1 ≤ R.frames ∧ 23 ≤ R.locals) (hcc : cells ≤ R.cells ∧ slots ≤ R.slots) (h : Nat) (v1 : Int32) (v2 : Int32) (v3 : Int32) (Z : q_Z) (M : q_C) (H : Heap) (locs : List Loc) (ls : Array Slot) (o : (Int32 × Int32) ⊕ ((Int32 × Int32) ⊕ Unit)) (hf : fX7_period_b90 h v1 v2 v3 Z M = some o) (hH : q_Hh D cA z0 s Z M H locs) (hl : lv_has ls 4 [(0, .ref h), (1, .int v1), (2, .int v2), (3, .int v3)]) (kb : ∀ (w2 : Int32) (w3 : Int32) (H : Heap) (locs : List Loc) (ls : Array Slot), Sum.inl (w2, w3) = o → q_Hh D cA z0 s Z M H locs → lv_has ls 4 [(0, .ref h), (1, .int v1), (2, .int w2), (3, .int w3)] → W p l e R s m args below meth c H locs cells slots Q (F0 m 14 ls [])) (kx0 : ∀ (w2 : Int32) (w3 : Int32) (H : Heap) (locs : List Loc) (ls : Array Slot), Sum.inr (Sum.inl (w2, w3)) = o → q_Hh D cA z0 s Z M H locs → lv_has ls 4 [(2, .int w2), (3, .int w3)] → W p l e R s m args below meth c H locs cells slots Q (F0 m 84 ls [])) (kx1 : ∀  (H : Heap) (locs : List Loc) (ls : Array Slot), Sum.inr (Sum.inr ()) = o → q_Hh D cA z0 s Z M H locs → lv_has ls 4 [] → W p l e R s m args below meth c H locs cells slots Q (F0 m 96 ls [])) : W p l e R s m args below meth c H locs cells slots Q (F0 m 90 ls []) := by
  have hx := E.1
  have hb := E.2.1
  have hown := E.2.2.2.1
  have hT := E.2.2.2.2.2.2.2.1
  unfold fX7_period_b90 at hf
  obtain ⟨v3_7, hn_8⟩ : ∃ y : Int32, y = v3 + (1 : Int32) := ⟨_, rfl⟩
  replace hf := q_nmE hn_8 hf
  refine lv_iinc (v := v3_7) (lv' := [(3, .int v3_7), (0, .ref h), (1, .int v1), (2, .int v2)]) hx hb dX7_period_90 hl (k := 3) rfl (by rw [hn_8]; rfl) (by decide) rfl (fun ls hl => ?_)
  clear hn_8
  refine lv_goto (tgt := 14) hx hb dX7_period_93 (by decide) ?_
  cases hf
  exact kb v2 v3_7 _ _ _ rfl hH (lv_sub hl [1, 2, 3, 0] rfl)
def fX7_period_L14 (h : Nat) (v1 : Int32) (v2 : Int32) (v3 : Int32) (Z : q_Z) (M : q_C) : Option ((Int32 × Int32) ⊕ ((Int32 × Int32) ⊕ Unit)) :=
  if (300 : Int32) ≤ v3 then
    some (Sum.inr (Sum.inr ()))
  else
    q_gd (zK Z h == 17) <|
    Option.bind (fX7_isThere h v1 (0 : Int32) Z M) fun r_5 =>
    if r_5 = 0 then
      fX7_period_b90 h v1 v2 v3 Z M
    else
      Option.bind (fX7_isThere h v1 (v3 + (1 : Int32)) Z M) fun r_9 =>
      if r_9 = 0 then
        fX7_period_b90 h v1 v2 v3 Z M
      else
        Option.bind (fX7_far h v1 v3 Z M) fun r_11 =>
        Option.bind (fX7_far h v1 (v3 - (1 : Int32)) Z M) fun r_13 =>
        if r_13 ≤ r_11 then
          fX7_period_b90 h v1 v2 v3 Z M
        else
          Option.bind (fX7_far h v1 v3 Z M) fun r_15 =>
          Option.bind (fX7_far h v1 (v3 + (1 : Int32)) Z M) fun r_17 =>
          if r_15 ≤ r_17 then
            if v2 ≤ 0 then
              fX7_period_b90 h v1 v3 v3 Z M
            else
              some (Sum.inr (Sum.inl (v2, v3)))
          else
            fX7_period_b90 h v1 v2 v3 Z M
set_option maxHeartbeats 4000000 in
set_option maxRecDepth 100000 in
theorem lX7_period_14 {cells slots : Nat} {Q : State → Prop} (E : q_E p s m meth c cX7_period 4 RX7 (some .int) "period" D cA) (hR : 1 ≤ R.frames ∧ 23 ≤ R.locals) (hcc : cells ≤ R.cells ∧ slots ≤ R.slots)  (h : Nat) (v1 : Int32) (Z : q_Z) (M : q_C) : ∀ (n : Nat) (v2 : Int32) (v3 : Int32) (H : Heap) (locs : List Loc) (ls : Array Slot) (r : (Int32 × Int32) ⊕ Unit), q_it (fun x => fX7_period_L14 h v1 x.1 x.2 Z M) n (v2, v3) = some r → q_Hh D cA z0 s Z M H locs → lv_has ls 4 [(0, .ref h), (1, .int v1), (2, .int v2), (3, .int v3)] → (kx0 : ∀ (w2 : Int32) (w3 : Int32) (H : Heap) (locs : List Loc) (ls : Array Slot), (Sum.inl (w2, w3)) = r → q_Hh D cA z0 s Z M H locs → lv_has ls 4 [(2, .int w2), (3, .int w3)] → W p l e R s m args below meth c H locs cells slots Q (F0 m 84 ls [])) → (kx1 : ∀  (H : Heap) (locs : List Loc) (ls : Array Slot), (Sum.inr ()) = r → q_Hh D cA z0 s Z M H locs → lv_has ls 4 [] → W p l e R s m args below meth c H locs cells slots Q (F0 m 96 ls [])) → W p l e R s m args below meth c H locs cells slots Q (F0 m 14 ls []) := by
  have hx := E.1
  have hb := E.2.1
  have hown := E.2.2.2.1
  have hT := E.2.2.2.2.2.2.2.1
  intro n
  induction n with
  | zero =>
    intro v2 v3 H locs ls r hf
    cases hf
  | succ n ih =>
    intro v2 v3 H locs ls r hf hH hl ky0 ky1
    obtain ⟨n1, o, hn, hf, ho⟩ := q_itE hf
    cases hn
    have hf : fX7_period_L14 h v1 v2 v3 Z M = some o := hf
    have kb : ∀ (w2 : Int32) (w3 : Int32) (H : Heap) (locs : List Loc) (ls : Array Slot), Sum.inl (w2, w3) = o → q_Hh D cA z0 s Z M H locs → lv_has ls 4 [(0, .ref h), (1, .int v1), (2, .int w2), (3, .int w3)] → W p l e R s m args below meth c H locs cells slots Q (F0 m 14 ls []) := by
      intro w2 w3 H locs ls e hH hl
      subst e
      exact ih w2 w3 H locs ls r ho hH hl ky0 ky1
    have kx0 : ∀ (w2 : Int32) (w3 : Int32) (H : Heap) (locs : List Loc) (ls : Array Slot), Sum.inr (Sum.inl (w2, w3)) = o → q_Hh D cA z0 s Z M H locs → lv_has ls 4 [(2, .int w2), (3, .int w3)] → W p l e R s m args below meth c H locs cells slots Q (F0 m 84 ls []) := by
      intro w2 w3 H locs ls e hH hl
      subst e
      exact ky0 w2 w3 H locs ls ho hH hl
    have kx1 : ∀  (H : Heap) (locs : List Loc) (ls : Array Slot), Sum.inr (Sum.inr ()) = o → q_Hh D cA z0 s Z M H locs → lv_has ls 4 [] → W p l e R s m args below meth c H locs cells slots Q (F0 m 96 ls []) := by
      intro  H locs ls e hH hl
      subst e
      exact ky1  H locs ls ho hH hl
    unfold fX7_period_L14 at hf
    refine lv_iload_n hx hb dX7_period_14 rfl (lv_at hl 3 rfl) ?_
    refine lv_sipush (v := 300) hx hb dX7_period_15 (by decide) ?_
    refine lv_icmp_ge (tgt := 96) hx hb dX7_period_18 (by decide) (fun cc_24 => ?_) (fun cc_24 => ?_)
    · replace hf := q_ifT cc_24 hf
      clear cc_24
      cases hf
      exact kx1  _ _ _ rfl hH (lv_sub hl [] rfl)
    · replace hf := q_ifF cc_24 hf
      clear cc_24
      refine lv_aload_n hx hb dX7_period_21 rfl (lv_at hl 0 rfl) ?_
      refine lv_iload_n hx hb dX7_period_22 rfl (lv_at hl 1 rfl) ?_
      refine lv_iconst (v := 0) hx hb dX7_period_23 (by decide) ?_
      obtain ⟨hk_4, hf⟩ := q_gdE hf
      have hk_4 := q_keq hk_4
      obtain ⟨r_5, hw_6, hf⟩ := q_biE hf
      refine q_cV (As := [.int v1, .int (0 : Int32)]) (rest := []) (st1 := [.int r_5]) E hH (tX7_isThere l D cA z0 h v1 (0 : Int32) Z M r_5 hw_6) mw_X7_isThere mi_X7_isThere (ci := 7) rfl ms_X7_isThere kM_X7_165 hk_4 hcc rfl rfl rfl hl.1 rfl rfl (Nat.le_of_ble_eq_true rfl) ⟨Nat.le_trans (by decide) hR.1, Nat.le_trans (by decide) hR.2⟩ dX7_period_24 (fun H locs hH => ?_)
      refine lv_if_eq (tgt := 90) hx hb dX7_period_27 (by decide) (fun cc_23 => ?_) (fun cc_23 => ?_)
      · replace hf := q_ifT cc_23 hf
        clear cc_23
        exact bX7_period_90 E hR hcc h v1 v2 v3 Z M _ _ _ _ hf hH (lv_sub hl [0, 1, 2, 3] rfl) kb kx0 kx1
      · replace hf := q_ifF cc_23 hf
        clear cc_23
        refine lv_aload_n hx hb dX7_period_30 rfl (lv_at hl 0 rfl) ?_
        refine lv_iload_n hx hb dX7_period_31 rfl (lv_at hl 1 rfl) ?_
        refine lv_iload_n hx hb dX7_period_32 rfl (lv_at hl 3 rfl) ?_
        refine lv_iconst (v := 1) hx hb dX7_period_33 (by decide) ?_
        refine lv_iadd hx hb dX7_period_34 ?_
        obtain ⟨r_9, hw_10, hf⟩ := q_biE hf
        refine q_cV (As := [.int v1, .int (v3 + (1 : Int32))]) (rest := []) (st1 := [.int r_9]) E hH (tX7_isThere l D cA z0 h v1 (v3 + (1 : Int32)) Z M r_9 hw_10) mw_X7_isThere mi_X7_isThere (ci := 7) rfl ms_X7_isThere kM_X7_165 hk_4 hcc rfl rfl rfl hl.1 rfl rfl (Nat.le_of_ble_eq_true rfl) ⟨Nat.le_trans (by decide) hR.1, Nat.le_trans (by decide) hR.2⟩ dX7_period_35 (fun H locs hH => ?_)
        refine lv_if_eq (tgt := 90) hx hb dX7_period_38 (by decide) (fun cc_22 => ?_) (fun cc_22 => ?_)
        · replace hf := q_ifT cc_22 hf
          clear cc_22
          exact bX7_period_90 E hR hcc h v1 v2 v3 Z M _ _ _ _ hf hH (lv_sub hl [0, 1, 2, 3] rfl) kb kx0 kx1
        · replace hf := q_ifF cc_22 hf
          clear cc_22
          refine lv_aload_n hx hb dX7_period_41 rfl (lv_at hl 0 rfl) ?_
          refine lv_iload_n hx hb dX7_period_42 rfl (lv_at hl 1 rfl) ?_
          refine lv_iload_n hx hb dX7_period_43 rfl (lv_at hl 3 rfl) ?_
          obtain ⟨r_11, hw_12, hf⟩ := q_biE hf
          refine q_cV (As := [.int v1, .int v3]) (rest := []) (st1 := [.long r_11]) E hH (tX7_far l D cA z0 h v1 v3 Z M r_11 hw_12) mw_X7_far mi_X7_far (ci := 7) rfl ms_X7_far kM_X7_224 hk_4 hcc rfl rfl rfl hl.1 rfl rfl (Nat.le_of_ble_eq_true rfl) ⟨Nat.le_trans (by decide) hR.1, Nat.le_trans (by decide) hR.2⟩ dX7_period_44 (fun H locs hH => ?_)
          refine lv_aload_n hx hb dX7_period_47 rfl (lv_at hl 0 rfl) ?_
          refine lv_iload_n hx hb dX7_period_48 rfl (lv_at hl 1 rfl) ?_
          refine lv_iload_n hx hb dX7_period_49 rfl (lv_at hl 3 rfl) ?_
          refine lv_iconst (v := 1) hx hb dX7_period_50 (by decide) ?_
          refine lv_isub hx hb dX7_period_51 ?_
          obtain ⟨r_13, hw_14, hf⟩ := q_biE hf
          refine q_cV (As := [.int v1, .int (v3 - (1 : Int32))]) (rest := [.long r_11]) (st1 := [.long r_13, .long r_11]) E hH (tX7_far l D cA z0 h v1 (v3 - (1 : Int32)) Z M r_13 hw_14) mw_X7_far mi_X7_far (ci := 7) rfl ms_X7_far kM_X7_224 hk_4 hcc rfl rfl rfl hl.1 rfl rfl (Nat.le_of_ble_eq_true rfl) ⟨Nat.le_trans (by decide) hR.1, Nat.le_trans (by decide) hR.2⟩ dX7_period_52 (fun H locs hH => ?_)
          refine q_lcmp_ge (pc1 := 56) (tgt := 90) hx hb dX7_period_55 rfl dX7_period_56 (by decide) (fun cc_21 => ?_) (fun cc_21 => ?_)
          · replace hf := q_ifT cc_21 hf
            clear cc_21
            exact bX7_period_90 E hR hcc h v1 v2 v3 Z M _ _ _ _ hf hH (lv_sub hl [0, 1, 2, 3] rfl) kb kx0 kx1
          · replace hf := q_ifF cc_21 hf
            clear cc_21
            refine lv_aload_n hx hb dX7_period_59 rfl (lv_at hl 0 rfl) ?_
            refine lv_iload_n hx hb dX7_period_60 rfl (lv_at hl 1 rfl) ?_
            refine lv_iload_n hx hb dX7_period_61 rfl (lv_at hl 3 rfl) ?_
            obtain ⟨r_15, hw_16, hf⟩ := q_biE hf
            refine q_cV (As := [.int v1, .int v3]) (rest := []) (st1 := [.long r_15]) E hH (tX7_far l D cA z0 h v1 v3 Z M r_15 hw_16) mw_X7_far mi_X7_far (ci := 7) rfl ms_X7_far kM_X7_224 hk_4 hcc rfl rfl rfl hl.1 rfl rfl (Nat.le_of_ble_eq_true rfl) ⟨Nat.le_trans (by decide) hR.1, Nat.le_trans (by decide) hR.2⟩ dX7_period_62 (fun H locs hH => ?_)
            refine lv_aload_n hx hb dX7_period_65 rfl (lv_at hl 0 rfl) ?_
            refine lv_iload_n hx hb dX7_period_66 rfl (lv_at hl 1 rfl) ?_
            refine lv_iload_n hx hb dX7_period_67 rfl (lv_at hl 3 rfl) ?_
            refine lv_iconst (v := 1) hx hb dX7_period_68 (by decide) ?_
            refine lv_iadd hx hb dX7_period_69 ?_
            obtain ⟨r_17, hw_18, hf⟩ := q_biE hf
            refine q_cV (As := [.int v1, .int (v3 + (1 : Int32))]) (rest := [.long r_15]) (st1 := [.long r_17, .long r_15]) E hH (tX7_far l D cA z0 h v1 (v3 + (1 : Int32)) Z M r_17 hw_18) mw_X7_far mi_X7_far (ci := 7) rfl ms_X7_far kM_X7_224 hk_4 hcc rfl rfl rfl hl.1 rfl rfl (Nat.le_of_ble_eq_true rfl) ⟨Nat.le_trans (by decide) hR.1, Nat.le_trans (by decide) hR.2⟩ dX7_period_70 (fun H locs hH => ?_)
            refine q_lcmp_le (pc1 := 74) (tgt := 80) hx hb dX7_period_73 rfl dX7_period_74 (by decide) (fun cc_20 => ?_) (fun cc_20 => ?_)
            · replace hf := q_ifT cc_20 hf
              clear cc_20
              refine lv_iload_n hx hb dX7_period_80 rfl (lv_at hl 2 rfl) ?_
              refine lv_if_le (tgt := 88) hx hb dX7_period_81 (by decide) (fun cc_19 => ?_) (fun cc_19 => ?_)
              · replace hf := q_ifT cc_19 hf
                clear cc_19
                refine lv_iload_n hx hb dX7_period_88 rfl (lv_at hl 3 rfl) ?_
                refine lv_istore_n (lv' := [(2, .int v3), (0, .ref h), (1, .int v1), (3, .int v3)]) hx hb dX7_period_89 rfl hl (by decide) rfl (fun ls hl => ?_)
                exact bX7_period_90 E hR hcc h v1 v3 v3 Z M _ _ _ _ hf hH (lv_sub hl [1, 2, 0, 3] rfl) kb kx0 kx1
              · replace hf := q_ifF cc_19 hf
                clear cc_19
                cases hf
                exact kx0 v2 v3 _ _ _ rfl hH (lv_sub hl [2, 3] rfl)
            · replace hf := q_ifF cc_20 hf
              clear cc_20
              refine lv_goto (tgt := 90) hx hb dX7_period_77 (by decide) ?_
              exact bX7_period_90 E hR hcc h v1 v2 v3 Z M _ _ _ _ hf hH (lv_sub hl [0, 1, 2, 3] rfl) kb kx0 kx1
def fX7_period (h : Nat) (v1 : Int32) (Z : q_Z) (M : q_C) : Option (Int32) :=
  q_gd (zK Z h == 17) <|
  Option.bind (fX7_isWay h v1 Z M) fun r_2 =>
  if r_2 = 0 then
    some (-1 : Int32)
  else
    Option.bind (q_it (fun x => fX7_period_L14 h v1 x.1 x.2 Z M) q_FU ((0 : Int32), (1 : Int32))) fun r_25 =>
    q_sm r_25 (fun e_27 =>
      q_nm e_27.1 fun v2_28 =>
      q_nm e_27.2 fun v3_29 =>
      some (v3_29 - v2_28)
    ) fun e_30 =>
    some (0 : Int32)
set_option maxHeartbeats 4000000 in
set_option maxRecDepth 100000 in
theorem bX7_period_0 {cells slots : Nat} (E : q_E p s m meth c cX7_period 4 RX7 (some .int) "period" D cA) (hR : 1 ≤ R.frames ∧ 23 ≤ R.locals) (hcc : cells ≤ R.cells ∧ slots ≤ R.slots) (h : Nat) (v1 : Int32) (Z : q_Z) (M : q_C) (H : Heap) (locs : List Loc) (ls : Array Slot) (r : Int32) (hf : fX7_period h v1 Z M = some r) (hH : q_Hh D cA z0 s Z M H locs) (hl : lv_has ls 4 [(0, .ref h), (1, .int v1)])  : W p l e R s m args below meth c H locs cells slots (MQ below (q_Q D cA z0 (some (.int r)) Z M) args s cells slots (fun q => z0 ≤ q)) (F0 m 0 ls []) := by
  have hx := E.1
  have hb := E.2.1
  have hown := E.2.2.2.1
  have hT := E.2.2.2.2.2.2.2.1
  unfold fX7_period at hf
  refine lv_aload_n hx hb dX7_period_0 rfl (lv_at hl 0 rfl) ?_
  refine lv_iload_n hx hb dX7_period_1 rfl (lv_at hl 1 rfl) ?_
  obtain ⟨hk_1, hf⟩ := q_gdE hf
  have hk_1 := q_keq hk_1
  obtain ⟨r_2, hw_3, hf⟩ := q_biE hf
  refine q_cV (As := [.int v1]) (rest := []) (st1 := [.int r_2]) E hH (tX7_isWay l D cA z0 h v1 Z M r_2 hw_3) mw_X7_isWay mi_X7_isWay (ci := 7) rfl ms_X7_isWay kM_X7_184 hk_1 hcc rfl rfl rfl hl.1 rfl rfl (Nat.le_of_ble_eq_true rfl) ⟨Nat.le_trans (by decide) hR.1, Nat.le_trans (by decide) hR.2⟩ dX7_period_2 (fun H locs hH => ?_)
  refine lv_if_ne (tgt := 10) hx hb dX7_period_5 (by decide) (fun cc_33 => ?_) (fun cc_33 => ?_)
  · replace hf := q_ifF cc_33 hf
    clear cc_33
    refine lv_iconst (v := 0) hx hb dX7_period_10 (by decide) ?_
    refine lv_istore_n (lv' := [(2, .int (0 : Int32)), (0, .ref h), (1, .int v1)]) hx hb dX7_period_11 rfl hl (by decide) rfl (fun ls hl => ?_)
    refine lv_iconst (v := 1) hx hb dX7_period_12 (by decide) ?_
    refine lv_istore_n (lv' := [(3, .int (1 : Int32)), (2, .int (0 : Int32)), (0, .ref h), (1, .int v1)]) hx hb dX7_period_13 rfl hl (by decide) rfl (fun ls hl => ?_)
    obtain ⟨r_25, hr_26, hf⟩ := q_biE hf
    refine lX7_period_14 E hR hcc h v1 Z M q_FU (0 : Int32) (1 : Int32) _ _ _ r_25 hr_26 hH (lv_sub hl [2, 3, 1, 0] rfl) (fun v2_28 v3_29 H locs ls he_31 hH hl => ?_) (fun  H locs ls he_32 hH hl => ?_)
    · subst he_31
      replace hf := q_smL hf
      replace hf := q_nmE (x := v2_28) rfl hf
      replace hf := q_nmE (x := v3_29) rfl hf
      refine lv_iload_n hx hb dX7_period_84 rfl (lv_at hl 1 rfl) ?_
      refine lv_iload_n hx hb dX7_period_85 rfl (lv_at hl 0 rfl) ?_
      refine lv_isub hx hb dX7_period_86 ?_
      cases hf
      exact q_iret E hH dX7_period_87
    · subst he_32
      replace hf := q_smR hf
      refine lv_iconst (v := 0) hx hb dX7_period_96 (by decide) ?_
      cases hf
      exact q_iret E hH dX7_period_97
  · replace hf := q_ifT cc_33 hf
    clear cc_33
    refine lv_iconst (v := -1) hx hb dX7_period_8 (by decide) ?_
    cases hf
    exact q_iret E hH dX7_period_9
set_option maxRecDepth 100000 in
theorem tX7_period (l : Launch) (D : va_G) (cA : Nat → ClassId) (z0 : Nat) (h : Nat) (v1 : Int32) (Z : q_Z) (M : q_C) (r : Int32) (hf : fX7_period h v1 Z M = some r) : q_Ct l D cA z0 yX7_period cX7_period 4 (some .int) 1 23 [.ref h, .int v1] Z M (some (.int r)) Z M 0 0 := by
  (refine q_start (plainFor_of_name (by decide)) (Nat.le_of_ble_eq_true rfl) (fun p e s m below meth c H ls E hH hl => ?_); exact bX7_period_0 E ⟨Nat.le_refl _, Nat.le_refl _⟩ ⟨Nat.le_refl _, Nat.le_refl _⟩ h _ Z M H [] ls r hf hH hl)
end Q234
