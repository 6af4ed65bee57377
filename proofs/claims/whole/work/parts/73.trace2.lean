theorem e_tB {Z : q_Z} {w cm o p : Nat} {S : q_SK} {t0 : Int} {c0 : q_cs} (h0 : t0 ≤ 300) : ∀ (k : Nat) (t : Int) (M : q_C) (c : q_cs) (f : Nat), t = -300 + k → t ≤ t0 → trW Z M w cm o p S → TT S t0 c0 t = some c → cst M cm c (sp t) 0 → gI M w 8 = sp t → k + 2 < f →
    ∃ (M' : q_C) (lo : Int), q_it (fun x : Int32 × q_C => fX5_trace_L112 w (some o) (some cm) x.1 Z x.2) f (sp (t - 1), M) = some M' ∧ tmv w cm p M M' ∧ -300 ≤ lo ∧ lo ≤ t ∧ gI M' w 8 = sp lo ∧ (∀ u, lo ≤ u → u < t → ∃ d, TT S t0 c0 u = some d ∧ gJ M' p (u + 300).toNat = pk2 d.1 d.2.1) ∧ (-300 < lo → TT S t0 c0 (lo - 1) = none) ∧ (∀ j, j ≠ 8 → gI M' w j = gI M w j) ∧ ∀ j, (t + 300).toNat ≤ j → gJ M' p j = gJ M p j := by
  intro k
  induction k with
  | zero =>
    intro t M c f h1 h2 g hT hc h8 hf
    obtain ⟨f, rfl⟩ : ∃ y, f = y + 1 := ⟨f - 1, by omega⟩
    obtain rfl : t = -300 := by omega
    refine ⟨M, -300, q_it_x ?_, tmv.rf, by omega, by omega, h8, fun u q1 q2 => by omega, fun q => by omega, fun _ _ => rfl, fun _ _ => rfl⟩
    show fX5_trace_L112 w (some o) (some cm) (sp (-300 - 1)) Z M = _
    unfold fX5_trace_L112
    rw [if_pos (by decide)]
  | succ k ih =>
    intro t M c f h1 h2 g hT hc h8 hf
    obtain ⟨f, rfl⟩ : ∃ y, f = y + 1 := ⟨f - 1, by omega⟩
    obtain ⟨g1, ⟨g2, g3, g4, g5⟩, g6, g7⟩ := id g
    have hlt : ¬ sp (t - 1) < (-300 : Int32) := by
      rw [Int32.lt_iff_toInt_lt, sp_T (by omega) (by omega), show (-300 : Int32).toInt = -300 from rfl]
      omega
    obtain ⟨M2, b1, b2, b3⟩ := e_go (t' := t - 1) g1 hT hc (by omega) (by omega) (by omega) (by omega)
    have m2 : tmv w cm p M M2 := b2.tm
    have gg2 := g.mv m2
    have i2 : ∀ j, gI M2 w j = gI M w j := fun j => b2.1.I (by omega) j
    have p2 : ∀ j, gJ M2 p j = gJ M p j := fun j => b2.1.J (by omega) j
    have body : ∀ (e : q_cs) (l : Int32), cst M2 cm e (sp (t - 1)) l → fX5_trace_L112 w (some o) (some cm) (sp (t - 1)) Z M = some (.inl (sp (t - 1 - 1), sI (sJ M2 p (t - 1 + 300).toNat (pk2 e.1 e.2.1)) w 8 (if l = 0 then sp (t - 1) else sp t))) := by
      intro e l he
      unfold fX5_trace_L112 fX5_trace_b152
      rw [if_neg hlt, q_bis, q_gdk g1.1, if_pos hc.2.2.2.2.2, b1, q_bis, q_gdk g2, e_write gg2 he (by omega) (by omega), q_bis, gI_sJ, he.2.2.2.2.2, q_bis, q_bis, q_gdk g2, q_gdk g2]
      simp only [q_nm]
      rw [sp_n, sp_1, show t - 1 + 1 = t by omega]
      split <;> rfl
    rcases b3 with ⟨c', hc', hcs⟩ | ⟨hn, q, d, e, hd, hq⟩
    · rw [q_it_s (y := (sp (t - 1 - 1), sI (sJ M2 p (t - 1 + 300).toNat (pk2 c'.1 c'.2.1)) w 8 (sp (t - 1)))) (body c' 0 hcs)]
      generalize hM3 : sJ M2 p (t - 1 + 300).toNat (pk2 c'.1 c'.2.1) = M3
      have m3 : tmv w cm p M M3 := by rw [← hM3]; exact tmv_p m2 _ _
      have p3 : ∀ j, j ≠ (t - 1 + 300).toNat → gJ M3 p j = gJ M p j := fun j q => by rw [← hM3, gJ_k _ _ _ _ q, p2]
      have p3s : gJ M3 p (t - 1 + 300).toNat = pk2 c'.1 c'.2.1 := by rw [← hM3, gJ_same]
      have i3 : ∀ j, gI M3 w j = gI M w j := fun j => by rw [← hM3, gI_sJ]; exact i2 j
      have hcs3 : cst M3 cm c' (sp (t - 1)) 0 := by
        rw [← hM3]
        refine ⟨?_, ?_, ?_, ?_, hcs.2.2.2.2.1, hcs.2.2.2.2.2⟩
        · rw [gJ_a _ _ _ _ (by omega)]; exact hcs.1
        · rw [gJ_a _ _ _ _ (by omega)]; exact hcs.2.1
        · rw [gJ_a _ _ _ _ (by omega)]; exact hcs.2.2.1
        · rw [gJ_a _ _ _ _ (by omega)]; exact hcs.2.2.2.1
      generalize hM4 : sI M3 w 8 (sp (t - 1)) = M4
      have m4 : tmv w cm p M M4 := by rw [← hM4]; exact tmv_w m3 _ _
      have hcs4 : cst M4 cm c' (sp (t - 1)) 0 := by
        rw [← hM4]
        refine ⟨hcs3.1, hcs3.2.1, hcs3.2.2.1, hcs3.2.2.2.1, ?_, ?_⟩
        · rw [gI_a _ _ _ _ (by omega)]; exact hcs3.2.2.2.2.1
        · rw [gI_a _ _ _ _ (by omega)]; exact hcs3.2.2.2.2.2
      obtain ⟨M', lo, r1, r2, r3, r4, r5, r6, r7, r8, r9⟩ := ih (t - 1) M4 c' f (by omega) (by omega) (g.mv m4) hc' hcs4 (by rw [← hM4, gI_same]) (by omega)
      have p4 : ∀ j, gJ M4 p j = gJ M3 p j := fun j => by rw [← hM4, gJ_sI]
      refine ⟨M', lo, r1, m4.tr r2, r3, by omega, r5, fun u q1 q2 => ?_, r7, fun j q => ?_, fun j q => ?_⟩
      · by_cases q : u < t - 1
        · exact r6 u q1 q
        · obtain rfl : u = t - 1 := by omega
          exact ⟨c', hc', by rw [r9 _ (by omega), p4, p3s]⟩
      · rw [r8 j q, ← hM4, gI_k _ _ _ _ q, i3]
      · rw [r9 j (by omega), p4, p3 j (by omega)]
    · rcases hq with ⟨u1, u2, u3⟩ | ⟨u1, u2, u3, u4, u5⟩
      · omega
      · obtain rfl : q = t := by omega
        rw [q_it_s (y := (sp (q - 1 - 1), sI (sJ M2 p (q - 1 + 300).toNat (pk2 e.1 e.2.1)) w 8 (sp q))) (body e 1 u3)]
        generalize hM3 : sJ M2 p (q - 1 + 300).toNat (pk2 e.1 e.2.1) = M3
        have m3 : tmv w cm p M M3 := by rw [← hM3]; exact tmv_p m2 _ _
        have h35 : gI M3 cm 5 = 1 := by rw [← hM3, gI_sJ]; exact u3.2.2.2.2.2
        have i3 : ∀ j, gI M3 w j = gI M w j := fun j => by rw [← hM3, gI_sJ]; exact i2 j
        obtain ⟨f, rfl⟩ : ∃ y, f = y + 1 := ⟨f - 1, by omega⟩
        refine ⟨sI M3 w 8 (sp q), q, q_it_x ?_, tmv_w m3 _ _, by omega, by omega, gI_same _ _ _ _, fun u q1 q2 => by omega, fun _ => u5, fun j qj => ?_, fun j qj => ?_⟩
        · show fX5_trace_L112 w (some o) (some cm) (sp (q - 1 - 1)) Z (sI M3 w 8 (sp q)) = _
          unfold fX5_trace_L112
          by_cases hx : sp (q - 1 - 1) < (-300 : Int32)
          · rw [if_pos hx]
          · rw [if_neg hx, q_bis, q_gdk g1.1, if_neg (by rw [gI_a _ _ _ _ (by omega), h35]; decide)]
        · rw [gI_k _ _ _ _ qj, i3]
        · rw [gJ_sI, ← hM3, gJ_k _ _ _ _ (by omega), p2]
theorem e_tr29 {Z : q_Z} {M : q_C} {w cm o p : Nat} {S : q_SK} {t0 : Int} {i j x y u v : Int32} (g : trW Z M w cm o p S) (hs : wst M w i j x y u v (sp t0)) (hl : ¬ lost x.toInt64 y.toInt64) (h1 : -300 ≤ t0) (h2 : t0 ≤ 300) :
    ∃ M', fX5_trace_b29 w (some o) (some cm) Z M = some (Z, M') ∧ B_tr M' w S t0 (x.toInt64, y.toInt64, u.toInt64, v.toInt64) ∧ wst M' w i j x y u v (sp t0) ∧ gI M' w 7 = gI M w 7 ∧ tmv w cm p M M' := by
  obtain ⟨g1, ⟨g2, g3, g4, g5⟩, g6, g7⟩ := id g
  generalize hc0 : ((x.toInt64, y.toInt64, u.toInt64, v.toInt64) : q_cs) = c0
  have hl0 : ¬ lost c0.1 c0.2.1 := by rw [← hc0]; exact hl
  have hT0 : TT S t0 c0 t0 = some c0 := by rw [TT_0, if_neg hl0]
  generalize hM1 : sI M w 8 (gI M w 6) = M1
  have m1 : tmv w cm p M M1 := by rw [← hM1]; exact tmv_w tmv.rf _ _
  generalize hM2 : sI M1 w 9 (gI M1 w 6 - 1) = M2
  have m2 : tmv w cm p M M2 := by rw [← hM2]; exact tmv_w m1 _ _
  have i2 : ∀ q, q ≠ 8 → q ≠ 9 → gI M2 w q = gI M w q := fun q q1 q2 => by rw [← hM2, gI_k _ _ _ _ q2, ← hM1, gI_k _ _ _ _ q1]
  have i28 : gI M2 w 8 = sp t0 := by rw [← hM2, gI_k _ _ _ _ (by decide), ← hM1, gI_same]; exact hs.2.2.2.2.2.2
  have i29 : gI M2 w 9 = sp (t0 - 1) := by rw [← hM2, gI_same, ← hM1, gI_k _ _ _ _ (by decide), hs.2.2.2.2.2.2, sp_m]
  have hs2 : wst M2 w i j x y u v (sp t0) := by
    unfold wst
    rw [i2 _ (by decide) (by decide), i2 _ (by decide) (by decide), i2 _ (by decide) (by decide), i2 _ (by decide) (by decide), i2 _ (by decide) (by decide), i2 _ (by decide) (by decide), i2 _ (by decide) (by decide)]
    exact hs
  have gg2 := g.mv m2
  obtain ⟨M3, a1, a2, a3⟩ := e_begin g1.1 g2 g6.1 hs2
  rw [bi_f hl, hc0] at a2
  have m3 : tmv w cm p M M3 := m2.tr a3.tm
  have i3 : ∀ q, gI M3 w q = gI M2 w q := fun q => a3.1.I (by omega) q
  have gg3 := g.mv m3
  have w3 := e_write gg3 a2 h1 (by omega)
  generalize hM4 : sJ M3 p (t0 + 300).toNat (pk2 c0.1 c0.2.1) = M4 at w3
  have m4 : tmv w cm p M M4 := by rw [← hM4]; exact tmv_p m3 _ _
  have i4 : ∀ q, gI M4 w q = gI M2 w q := fun q => by rw [← hM4, gI_sJ]; exact i3 q
  have hcs4 : cst M4 cm c0 (sp t0) 0 := by
    rw [← hM4]
    refine ⟨?_, ?_, ?_, ?_, a2.2.2.2.2.1, a2.2.2.2.2.2⟩
    · rw [gJ_a _ _ _ _ (by omega)]; exact a2.1
    · rw [gJ_a _ _ _ _ (by omega)]; exact a2.2.1
    · rw [gJ_a _ _ _ _ (by omega)]; exact a2.2.2.1
    · rw [gJ_a _ _ _ _ (by omega)]; exact a2.2.2.2.1
  obtain ⟨M5, hi, r1, r2, r3, r4, r5, r6, r7, r8, r9⟩ := e_tF (c0 := c0) h1 (301 - t0).toNat t0 M4 c0 q_FU (by omega) (by omega) (g.mv m4) hT0 hcs4 (by rw [← hM4, gJ_same]) (by rw [i4, i29]) (by unfold q_FU; omega)
  have m5 := m4.tr r2
  have hs5 : wst M5 w i j x y u v (sp t0) := by
    unfold wst
    rw [r8 _ (by decide), r8 _ (by decide), r8 _ (by decide), r8 _ (by decide), r8 _ (by decide), r8 _ (by decide), r8 _ (by decide), i4, i4, i4, i4, i4, i4, i4]
    exact hs2
  obtain ⟨M6, b1, b2, b3⟩ := e_begin g1.1 g2 g6.1 hs5
  rw [bi_f hl, hc0] at b2
  have m6 : tmv w cm p M M6 := m5.tr b3.tm
  have i6 : ∀ q, gI M6 w q = gI M5 w q := fun q => b3.1.I (by omega) q
  have p6 : ∀ q, gJ M6 p q = gJ M5 p q := fun q => b3.1.J (by omega) q
  obtain ⟨M7, lo, s1, s2, s3, s4, s5, s6, s7, s8, s9⟩ := e_tB (c0 := c0) h2 (t0 + 300).toNat t0 M6 c0 q_FU (by omega) (by omega) (g.mv m6) hT0 b2 (by rw [i6, r8 _ (by decide), i4, i28]) (by unfold q_FU; omega)
  have m7 := m6.tr s2
  have hs7 : wst M7 w i j x y u v (sp t0) := by
    unfold wst
    rw [s8 _ (by decide), s8 _ (by decide), s8 _ (by decide), s8 _ (by decide), s8 _ (by decide), s8 _ (by decide), s8 _ (by decide), i6, i6, i6, i6, i6, i6, i6]
    exact hs5
  refine ⟨M7, ?_, ⟨p, lo, hi, ?_, s3, by omega, by omega, r4, s5, ?_, fun t q1 q2 => ?_⟩, hs7, ?_, m7⟩
  · unfold fX5_trace_b29 fX5_trace_b100 fX5_trace_b161
    rw [q_gdk g2]
    simp only [q_nm]
    rw [hM1, hM2, q_bis, q_gdk g1.1, a1, q_bis, w3, q_bis, i4, hs2.2.2.2.2.2.2, r1, q_bis, q_bis, q_gdk g1.1, b1, q_bis, q_gdk g2, i6, hs5.2.2.2.2.2.2, sp_m, s1, q_bis]
  · unfold gR; rw [m7.2]; exact g3
  · rw [s8 _ (by decide), i6]; exact r5
  · have pf : ∀ t, t0 ≤ t → t ≤ hi → ∃ d, TT S t0 c0 t = some d ∧ gJ M7 p (t + 300).toNat = pk2 d.1 d.2.1 ∧ gJ M7 p (t + 301).toNat = pk2 (d.1 + d.2.2.1) (d.2.1 + d.2.2.2) := by
      intro t q1 q2
      obtain ⟨d, d1, d2, d3⟩ := r6 t q1 q2
      refine ⟨d, d1, ?_, ?_⟩
      · rw [s9 _ (by omega), p6]; exact d2
      · rw [s9 _ (by omega), p6]; exact d3
    have hih : t0 ≤ hi := by
      rcases Int.lt_or_le hi t0 with q | q
      · have := r7 (by omega)
        rw [show hi + 1 = t0 by omega, hT0] at this
        cases this
      · exact q
    have pb : ∀ t, lo ≤ t → t ≤ t0 → ∃ d, TT S t0 c0 t = some d ∧ gJ M7 p (t + 300).toNat = pk2 d.1 d.2.1 := by
      intro t q1 q2
      by_cases q : t < t0
      · exact s6 t q1 q
      · obtain rfl : t = t0 := by omega
        obtain ⟨d, d1, d2, d3⟩ := pf t q2 hih
        exact ⟨d, d1, d2⟩
    refine ⟨⟨fun q => ?_, fun q => ?_⟩, fun c hc => ?_⟩
    · by_cases q3 : t0 ≤ t
      · obtain ⟨d, d1, _⟩ := pf t q3 q.2
        rw [d1]; rfl
      · obtain ⟨d, d1, _⟩ := pb t q.1 (by omega)
        rw [d1]; rfl
    · constructor
      · rcases Int.lt_or_le t lo with q3 | q3
        · have hn := TT_nB (by omega) (s7 (by omega)) (lo - 1 - t).toNat
          rw [show lo - 1 - (((lo - 1 - t).toNat : Nat) : Int) = t by omega] at hn
          rw [hn] at q
          cases q
        · exact q3
      · rcases Int.lt_or_le hi t with q3 | q3
        · have hn := TT_nF (by omega) (r7 (by omega)) (t - (hi + 1)).toNat
          rw [show hi + 1 + (((t - (hi + 1)).toNat : Nat) : Int) = t by omega] at hn
          rw [hn] at q
          cases q
        · exact q3
    · have hin : lo ≤ t ∧ t ≤ hi := by
        constructor
        · rcases Int.lt_or_le t lo with q3 | q3
          · have hn := TT_nB (by omega) (s7 (by omega)) (lo - 1 - t).toNat
            rw [show lo - 1 - (((lo - 1 - t).toNat : Nat) : Int) = t by omega] at hn
            rw [hn] at hc
            cases hc
          · exact q3
        · rcases Int.lt_or_le hi t with q3 | q3
          · have hn := TT_nF (by omega) (r7 (by omega)) (t - (hi + 1)).toNat
            rw [show hi + 1 + (((t - (hi + 1)).toNat : Nat) : Int) = t by omega] at hn
            rw [hn] at hc
            cases hc
          · exact q3
      by_cases q3 : t0 ≤ t
      · obtain ⟨d, d1, d2, d3⟩ := pf t q3 hin.2
        rw [hc] at d1
        cases d1
        exact ⟨d2, d3⟩
      · obtain ⟨d, d1, d2⟩ := pb t hin.1 (by omega)
        rw [hc] at d1
        cases d1
        refine ⟨d2, ?_⟩
        obtain ⟨d', e1, e2⟩ := pb (t + 1) (by omega) (by omega)
        have hF := TT_F hc
        have hnl : ¬ lost (c.1 + c.2.2.1) (c.2.1 + c.2.2.2) := fun q => by
          rw [if_pos q, e1] at hF; cases hF
        rw [if_neg hnl, e1] at hF
        cases hF
        rw [show t + 301 = t + 1 + 300 by omega, e2]
        rfl
  · rw [s8 _ (by decide), i6, r8 _ (by decide), i4, i2 _ (by decide) (by decide)]
