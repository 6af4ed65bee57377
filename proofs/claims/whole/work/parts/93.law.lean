/-! the law -/
theorem e_824 {b L : Nat} {xs : Nat → Int32} {v1 v2 : Option Nat} {q : Nat} {Z : q_Z} {M : q_C} : fL_law_b824 b L xs v1 v2 (nI q) Z M = some (.inl (nI (q + 6), Z, M)) := by
  unfold fL_law_b824
  simp only [q_nm]
  rw [show (6 : Int32) = nI 6 from rfl, nI_add]
theorem q_sxT {L q k : Nat} {v : Int32} (hv : v = nI k) (h : q + k < L) (hL : L ≤ 3072) : q_sx L (nI q + v) = true := by
  rw [hv, nI_add]
  unfold q_sx
  simp [nI_pos (n := q + k) (by omega), nI_clamp (n := q + k) (by omega), h]
/-- one call -/
theorem e_law1 {b L z q : Nat} {xs : Nat → Int32} {Z : q_Z} {M : q_C} {W : q_W} (hL : L ≤ 3072) (hq : q + 6 ≤ L) (h : JW Z M z W) : ∃ (Z' : q_Z) (M' : q_C) (W' : q_W), fL_law_L18 b L xs (some z) (some (z + 35)) (nI q) Z M = some (.inl (nI (q + 6), Z', M')) ∧ JW Z' M' z W' := by
  have kB := h.1.1.1.1
  have kM := h.2.1.1.1.1
  have s : ∀ k : Nat, k < 6 → ∀ {v : Int32}, v = nI k → q_sx L (nI q + v) = true := fun k hk v hv => q_sxT hv (by omega) hL
  have s0 : q_sx L (nI q) = true := by
    have := s 0 (by decide) (v := 0) rfl
    rw [Int32.add_zero] at this
    exact this
  have s1 : q_sx L (nI q + (1 : Int32)) = true := s 1 (by decide) rfl
  have s2 : q_sx L (nI q + (2 : Int32)) = true := s 2 (by decide) rfl
  have s3 : q_sx L (nI q + (3 : Int32)) = true := s 3 (by decide) rfl
  have s4 : q_sx L (nI q + (4 : Int32)) = true := s 4 (by decide) rfl
  have s5 : q_sx L (nI q + (5 : Int32)) = true := s 5 (by decide) rfl
  have lt : ¬ Int32.ofNat L - (6 : Int32) < nI q := by
    rw [show Int32.ofNat L = nI L from rfl, Int32.lt_iff_toInt_lt, nI_toInt (by omega), Int32.toInt_sub, nI_toInt (by omega), show (6 : Int32).toInt = 6 from rfl, l_bm32 (by omega) (by omega)]
    omega
  unfold fL_law_L18
  rw [if_neg lt, q_gdc s0]
  by_cases c0 : (xs (nI q).toNatClampNeg) &&& (31 : Int32) = 0
  · rw [if_pos c0]
    by_cases hx : (xs (nI q + (1 : Int32)).toNatClampNeg) = 0
    · obtain ⟨r, M', M'', W', e1, e2, e3⟩ := j_round h 0 (xs (nI q + (2 : Int32)).toNatClampNeg) (xs (nI q + (3 : Int32)).toNatClampNeg)
      refine ⟨Z, M'', W', ?_, e3⟩
      unfold fL_law_b146 fL_law_b173
      rw [q_gdc s1, if_pos hx, q_gdc s2, q_gdc s3, q_bis, q_gdk kB, e1, q_b2s, q_gdc s1, if_pos hx, q_gdc s2, q_gdc s3, q_bis, q_gdk kM, e2, q_b2s, if_pos rfl, e_824]
    · obtain ⟨r, M', M'', W', e1, e2, e3⟩ := j_round h 1 (xs (nI q + (2 : Int32)).toNatClampNeg) (xs (nI q + (3 : Int32)).toNatClampNeg)
      refine ⟨Z, M'', W', ?_, e3⟩
      unfold fL_law_b146 fL_law_b173
      rw [q_gdc s1, if_neg hx, q_gdc s2, q_gdc s3, q_bis, q_gdk kB, e1, q_b2s, q_gdc s1, if_neg hx, q_gdc s2, q_gdc s3, q_bis, q_gdk kM, e2, q_b2s, if_pos rfl, e_824]
  rw [if_neg c0]
  by_cases c1 : (xs (nI q).toNatClampNeg) &&& (31 : Int32) = 1
  · rw [if_pos c1]
    obtain ⟨r, M', M'', W', e1, e2, e3⟩ := j_masses h (xs (nI q + (1 : Int32)).toNatClampNeg) (xs (nI q + (2 : Int32)).toNatClampNeg)
    refine ⟨Z, M'', W', ?_, e3⟩
    rw [q_gdc s1, q_gdc s2, q_bis, q_gdk kB, e1, q_b2s, q_gdc s1, q_gdc s2, q_bis, q_gdk kM, e2, q_b2s, if_pos rfl, e_824]
  rw [if_neg c1]
  by_cases c2 : (xs (nI q).toNatClampNeg) &&& (31 : Int32) = 2
  · rw [if_pos c2]
    obtain ⟨r, M', M'', W', e1, e2, e3⟩ := j_sight h (xs (nI q + (1 : Int32)).toNatClampNeg) (xs (nI q + (2 : Int32)).toNatClampNeg) (xs (nI q + (3 : Int32)).toNatClampNeg) (xs (nI q + (4 : Int32)).toNatClampNeg) (xs (nI q + (5 : Int32)).toNatClampNeg)
    refine ⟨Z, M'', W', ?_, e3⟩
    rw [q_gdc s1, q_gdc s2, q_gdc s3, q_gdc s4, q_gdc s5, q_bis, q_gdk kB, e1, q_b2s, q_gdc s1, q_gdc s2, q_gdc s3, q_gdc s4, q_gdc s5, q_bis, q_gdk kM, e2, q_b2s, if_pos rfl, e_824]
  rw [if_neg c2]
  by_cases c3 : (xs (nI q).toNatClampNeg) &&& (31 : Int32) = 3
  · rw [if_pos c3]
    obtain ⟨r, M', M'', W', e1, e2, e3⟩ := j_miss h (xs (nI q + (1 : Int32)).toNatClampNeg) (xs (nI q + (2 : Int32)).toNatClampNeg)
    refine ⟨Z, M'', W', ?_, e3⟩
    rw [q_gdc s1, q_gdc s2, q_bis, q_gdk kB, e1, q_b2s, q_gdc s1, q_gdc s2, q_bis, q_gdk kM, e2, q_b2s, if_pos rfl, e_824]
  rw [if_neg c3]
  by_cases c4 : (xs (nI q).toNatClampNeg) &&& (31 : Int32) = 4
  · rw [if_pos c4]
    obtain ⟨r, M', M'', W', e1, e2, e3⟩ := j_unsee h 
    refine ⟨Z, M'', W', ?_, e3⟩
    rw [q_bis, q_gdk kB, e1, q_b2s, q_bis, q_gdk kM, e2, q_b2s, if_pos rfl, e_824]
  rw [if_neg c4]
  by_cases c5 : (xs (nI q).toNatClampNeg) &&& (31 : Int32) = 5
  · rw [if_pos c5]
    obtain ⟨r, M', M'', W', e1, e2, e3⟩ := j_grid h (xs (nI q + (1 : Int32)).toNatClampNeg) (xs (nI q + (2 : Int32)).toNatClampNeg) (xs (nI q + (3 : Int32)).toNatClampNeg)
    refine ⟨Z, M'', W', ?_, e3⟩
    rw [q_gdc s1, q_gdc s2, q_gdc s3, q_bis, q_gdk kB, e1, q_b2s, q_gdc s1, q_gdc s2, q_gdc s3, q_bis, q_gdk kM, e2, q_b2s, if_pos rfl, e_824]
  rw [if_neg c5]
  by_cases c6 : (xs (nI q).toNatClampNeg) &&& (31 : Int32) = 6
  · rw [if_pos c6]
    obtain ⟨r, M', M'', W', e1, e2, e3⟩ := j_base h (xs (nI q + (1 : Int32)).toNatClampNeg) (xs (nI q + (2 : Int32)).toNatClampNeg)
    refine ⟨Z, M'', W', ?_, e3⟩
    rw [q_gdc s1, q_gdc s2, q_bis, q_gdk kB, e1, q_b2s, q_gdc s1, q_gdc s2, q_bis, q_gdk kM, e2, q_b2s, if_pos rfl, e_824]
  rw [if_neg c6]
  by_cases c7 : (xs (nI q).toNatClampNeg) &&& (31 : Int32) = 7
  · rw [if_pos c7]
    obtain ⟨r, Z', M', M'', W', e1, e2, e3⟩ := j_keep h 
    refine ⟨Z', M'', W', ?_, e3⟩
    unfold fL_law_b413
    rw [q_bis, q_gdk kB, e1, q_b3s, q_bis, q_gdk e3.2.1.1.1.1, e2, q_b2s, if_pos rfl, e_824]
  rw [if_neg c7]
  by_cases c8 : (xs (nI q).toNatClampNeg) &&& (31 : Int32) = 8
  · rw [if_pos c8]
    obtain ⟨r, e1, e2⟩ := j_way h (xs (nI q + (1 : Int32)).toNatClampNeg) (xs (nI q + (2 : Int32)).toNatClampNeg)
    refine ⟨Z, M, W, ?_, h⟩
    rw [q_gdc s1, q_gdc s2, q_bis, q_gdk kB, e1, q_bis, q_gdc s1, q_gdc s2, q_bis, q_gdk kM, e2, q_bis, if_pos rfl, e_824]
  rw [if_neg c8]
  by_cases c9 : (xs (nI q).toNatClampNeg) &&& (31 : Int32) = 9
  · rw [if_pos c9]
    obtain ⟨r, Z', M', e1, e2, e3⟩ := j_at h (xs (nI q + (1 : Int32)).toNatClampNeg) (xs (nI q + (2 : Int32)).toNatClampNeg) (xs (nI q + (3 : Int32)).toNatClampNeg)
    refine ⟨Z', M', W, ?_, e3⟩
    unfold fL_law_b474
    rw [q_gdc s1, q_gdc s2, q_gdc s3, q_bis, q_gdk kB, e1, q_b3s, q_gdc s1, q_gdc s2, q_gdc s3, q_bis, q_gdk e3.2.1.1.1.1, e2, q_bis, if_pos rfl, e_824]
  rw [if_neg c9]
  by_cases c10 : (xs (nI q).toNatClampNeg) &&& (31 : Int32) = 10
  · rw [if_pos c10]
    obtain ⟨r, Z', M', e1, e2, e3⟩ := j_fits h (xs (nI q + (1 : Int32)).toNatClampNeg) (xs (nI q + (2 : Int32)).toNatClampNeg)
    refine ⟨Z', M', W, ?_, e3⟩
    unfold fL_law_b512
    rw [q_gdc s1, q_gdc s2, q_bis, q_gdk kB, e1, q_b3s, q_gdc s1, q_gdc s2, q_bis, q_gdk e3.2.1.1.1.1, e2, q_bis, if_pos rfl, e_824]
  rw [if_neg c10]
  by_cases c11 : (xs (nI q).toNatClampNeg) &&& (31 : Int32) = 11
  · rw [if_pos c11]
    obtain ⟨r, Z', M', e1, e2, e3⟩ := j_fitting h (xs (nI q + (1 : Int32)).toNatClampNeg)
    refine ⟨Z', M', W, ?_, e3⟩
    unfold fL_law_b540
    rw [q_gdc s1, q_bis, q_gdk kB, e1, q_b3s, q_gdc s1, q_bis, q_gdk e3.2.1.1.1.1, e2, q_bis, if_pos rfl, e_824]
  rw [if_neg c11]
  by_cases c12 : (xs (nI q).toNatClampNeg) &&& (31 : Int32) = 12
  · rw [if_pos c12]
    obtain ⟨r, M', M'', e1, e2, e3⟩ := j_without h (xs (nI q + (1 : Int32)).toNatClampNeg)
    refine ⟨Z, M'', W, ?_, e3⟩
    unfold fL_law_b563
    rw [q_gdc s1, q_bis, q_gdk kB, e1, q_b3s, q_gdc s1, q_bis, q_gdk kM, e2, q_b2s, if_pos rfl, e_824]
  rw [if_neg c12]
  by_cases c13 : (xs (nI q).toNatClampNeg) &&& (31 : Int32) = 13
  · rw [if_pos c13]
    obtain ⟨r, Z', M', e1, e2, e3⟩ := j_patch h (xs (nI q + (1 : Int32)).toNatClampNeg)
    refine ⟨Z', M', W, ?_, e3⟩
    unfold fL_law_b586
    rw [q_gdc s1, q_bis, q_gdk kB, e1, q_b3s, q_gdc s1, q_bis, q_gdk e3.2.1.1.1.1, e2, q_bis, if_pos rfl, e_824]
  rw [if_neg c13]
  by_cases c14 : (xs (nI q).toNatClampNeg) &&& (31 : Int32) = 14
  · rw [if_pos c14]
    by_cases hx : (xs (nI q + (2 : Int32)).toNatClampNeg) = 0
    · obtain ⟨r, Z', M', e1, e2, e3⟩ := j_side h (xs (nI q + (1 : Int32)).toNatClampNeg) 0
      refine ⟨Z', M', W, ?_, e3⟩
      unfold fL_law_b619 fL_law_b622 fL_law_b641
      rw [q_gdc s1, q_gdc s2, if_pos hx, q_bis, q_gdk kB, e1, q_b3s, q_gdc s1, q_gdc s2, if_pos hx, q_bis, q_gdk e3.2.1.1.1.1, e2, q_bis, if_pos rfl, e_824]
    · obtain ⟨r, Z', M', e1, e2, e3⟩ := j_side h (xs (nI q + (1 : Int32)).toNatClampNeg) 1
      refine ⟨Z', M', W, ?_, e3⟩
      unfold fL_law_b619 fL_law_b622 fL_law_b641
      rw [q_gdc s1, q_gdc s2, if_neg hx, q_bis, q_gdk kB, e1, q_b3s, q_gdc s1, q_gdc s2, if_neg hx, q_bis, q_gdk e3.2.1.1.1.1, e2, q_bis, if_pos rfl, e_824]
  rw [if_neg c14]
  by_cases c15 : (xs (nI q).toNatClampNeg) &&& (31 : Int32) = 15
  · rw [if_pos c15]
    obtain ⟨r, Z', M', e1, e2, e3⟩ := j_tells h (xs (nI q + (1 : Int32)).toNatClampNeg) (xs (nI q + (2 : Int32)).toNatClampNeg)
    refine ⟨Z', M', W, ?_, e3⟩
    unfold fL_law_b663
    rw [q_gdc s1, q_gdc s2, q_bis, q_gdk kB, e1, q_b3s, q_gdc s1, q_gdc s2, q_bis, q_gdk e3.2.1.1.1.1, e2, q_bis, if_pos rfl, e_824]
  rw [if_neg c15]
  by_cases c16 : (xs (nI q).toNatClampNeg) &&& (31 : Int32) = 16
  · rw [if_pos c16]
    obtain ⟨r, Z', M', e1, e2, e3⟩ := j_period h (xs (nI q + (1 : Int32)).toNatClampNeg)
    refine ⟨Z', M', W, ?_, e3⟩
    unfold fL_law_b691
    rw [q_gdc s1, q_bis, q_gdk kB, e1, q_b3s, q_gdc s1, q_bis, q_gdk e3.2.1.1.1.1, e2, q_bis, if_pos rfl, e_824]
  rw [if_neg c16]
  by_cases c17 : (xs (nI q).toNatClampNeg) &&& (31 : Int32) = 17
  · rw [if_pos c17]
    by_cases hx : (xs (nI q + (1 : Int32)).toNatClampNeg) = 0
    · obtain ⟨r, Z', M', e1, e2, e3⟩ := j_span h 0
      refine ⟨Z', M', W, ?_, e3⟩
      unfold fL_law_b719 fL_law_b722 fL_law_b736
      rw [q_gdc s1, if_pos hx, q_bis, q_gdk kB, e1, q_b3s, q_gdc s1, if_pos hx, q_bis, q_gdk e3.2.1.1.1.1, e2, q_bis, if_pos rfl, e_824]
    · obtain ⟨r, Z', M', e1, e2, e3⟩ := j_span h 1
      refine ⟨Z', M', W, ?_, e3⟩
      unfold fL_law_b719 fL_law_b722 fL_law_b736
      rw [q_gdc s1, if_neg hx, q_bis, q_gdk kB, e1, q_b3s, q_gdc s1, if_neg hx, q_bis, q_gdk e3.2.1.1.1.1, e2, q_bis, if_pos rfl, e_824]
  rw [if_neg c17]
  by_cases c18 : (xs (nI q).toNatClampNeg) &&& (31 : Int32) = 18
  · rw [if_pos c18]
    obtain ⟨r, Z', M', M'', W', e1, e2, e3⟩ := j_near h (xs (nI q + (1 : Int32)).toNatClampNeg) (xs (nI q + (2 : Int32)).toNatClampNeg) (xs (nI q + (3 : Int32)).toNatClampNeg)
    refine ⟨Z', M'', W', ?_, e3⟩
    unfold fL_law_b763
    rw [q_gdc s1, q_gdc s2, q_gdc s3, q_bis, q_gdk kB, e1, q_b3s, q_gdc s1, q_gdc s2, q_gdc s3, q_bis, q_gdk e3.2.1.1.1.1, e2, q_b2s, if_pos rfl, e_824]
  rw [if_neg c18]
  by_cases c19 : (xs (nI q).toNatClampNeg) &&& (31 : Int32) = 19
  · rw [if_pos c19]
    obtain ⟨r, e1, e2⟩ := j_nearest h 
    refine ⟨Z, M, W, ?_, h⟩
    rw [q_bis, q_gdk kB, e1, q_bis, q_bis, q_gdk kM, e2, q_bis, if_pos rfl, e_824]
  rw [if_neg c19]
  by_cases c20 : (xs (nI q).toNatClampNeg) &&& (31 : Int32) = 20
  · rw [if_pos c20]
    obtain ⟨r, e1, e2⟩ := j_all h (xs (nI q + (1 : Int32)).toNatClampNeg)
    refine ⟨Z, M, W, ?_, h⟩
    rw [q_gdc s1, q_bis, q_gdk kB, e1, q_bis, q_gdc s1, q_bis, q_gdk kM, e2, q_bis, if_pos rfl, e_824]
  rw [if_neg c20]
  exact ⟨Z, M, W, e_824, h⟩
theorem e_lawL {b L z : Nat} {xs : Nat → Int32} (hL : L ≤ 3072) : ∀ (d q f : Nat) (Z : q_Z) (M : q_C) (W : q_W), L < q + 6 * (d + 1) → q ≤ 4000 → d + 1 < f → JW Z M z W →
    ∃ (Z' : q_Z) (M' : q_C) (W' : q_W), q_it (fun x : Int32 × q_Z × q_C => fL_law_L18 b L xs (some z) (some (z + 35)) x.1 x.2.1 x.2.2) f (nI q, Z, M) = some (Z', M') ∧ JW Z' M' z W' := by
  have out : ∀ (q f : Nat) (Z : q_Z) (M : q_C), L < q + 6 → q ≤ 4000 → q_it (fun x : Int32 × q_Z × q_C => fL_law_L18 b L xs (some z) (some (z + 35)) x.1 x.2.1 x.2.2) (f + 1) (nI q, Z, M) = some (Z, M) := by
    intro q f Z M h1 h2
    refine q_it_x ?_
    show fL_law_L18 b L xs (some z) (some (z + 35)) (nI q) Z M = _
    unfold fL_law_L18
    rw [if_pos]
    rw [show Int32.ofNat L = nI L from rfl, Int32.lt_iff_toInt_lt, nI_toInt (by omega), Int32.toInt_sub, nI_toInt (by omega), show (6 : Int32).toInt = 6 from rfl, l_bm32 (by omega) (by omega)]
    omega
  intro d
  induction d with
  | zero =>
    intro q f Z M W h1 h2 h3 h4
    obtain ⟨f, rfl⟩ : ∃ y, f = y + 1 := ⟨f - 1, by omega⟩
    exact ⟨Z, M, W, out q f Z M (by omega) h2, h4⟩
  | succ d ih =>
    intro q f Z M W h1 h2 h3 h4
    obtain ⟨f, rfl⟩ : ∃ y, f = y + 1 := ⟨f - 1, by omega⟩
    by_cases hq : q + 6 ≤ L
    · obtain ⟨Z1, M1, W1, a1, a2⟩ := e_law1 (b := b) (xs := xs) hL hq h4
      rw [q_it_s (y := (nI (q + 6), Z1, M1)) a1]
      exact ih (q + 6) f Z1 M1 W1 (by omega) (by omega) (by omega) a2
    · exact ⟨Z, M, W, out q f Z M (by omega) h2, h4⟩
theorem q_pure : q_Pure := by
  intro z b L xs hL
  obtain ⟨M1, a1, a2, a3, a4⟩ := j_start z
  obtain ⟨Z', M', W', b1, b2⟩ := e_lawL (b := b) (xs := xs) hL 512 0 q_FU _ _ _ (by omega) (by omega) (by unfold q_FU; omega) a4
  rw [nI_0] at b1
  have hR := b2.1.2.1
  have c1 := cnt_le (rwb M' z) 100
  have c2 := cnt_le (plb M' z) 100
  refine ⟨Z', M', ?_, ?_, ?_⟩
  · unfold fL_law fL_law_b3 fL_law_b7 fL_law_b11 fL_law_b15 fL_law_b830
    have e35 : zS (zF (q_Z0 z) L35) = z + 35 := zF_S _ _
    have e1 : zN (q_Z0 z) 16 15 = zF (q_Z0 z) [(16, 15)] := rfl
    have e2 : zN (zF (q_Z0 z) L35) 17 30 = zF (q_Z0 z) (L35 ++ [(17, 30)]) := zF_app L35 [(17, 30)] (q_Z0 z)
    rw [q_gdk (zo_0 z _ (Nat.le_refl _)), cN_id (fz_0 _), show zS (q_Z0 z) = z from rfl, e1, a1, q_b2s, q_gdk (zF_o L35 _ (zo_0 z) _ (Nat.le_refl _)), e35, cN_id a2, e2, a3, q_b2s, b1, q_bis]
    rfl
  · have := hR.2.2.2.1
    omega
  · have := hR.2.2.2.2.1
    omega
