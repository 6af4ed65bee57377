/-- back to the beginning -/
theorem e_fb {Z : q_Z} {m k : Nat} {S : q_SK} {t0 hi : Int} {c0 : q_cs} (hok : okSK S) (hk : k < 100) (h0 : t0 ≤ 300) : ∀ (j : Nat) (t : Int) (M : q_C) (c : q_cs) (f : Nat), t = -300 + j → t ≤ t0 → zM Z M m → M_sk M m S → TT S t0 c0 t = some c → mst M m c → (∀ u, t ≤ u → u ≤ hi → ∃ d, TT S t0 c0 u = some d ∧ st4 M m k u d) → gI M (m + 9) (2 * k) = sp t → j + 2 < f →
    ∃ (M' : q_C) (lo : Int), q_it (fun x : Int32 × Int32 × q_C => fX7_follows_L163 m (nI k) x.1 x.2.1 Z x.2.2) f (1, sp t, M) = some M' ∧ fov m k M M' ∧ -300 ≤ lo ∧ lo ≤ t ∧ gI M' (m + 9) (2 * k) = sp lo ∧ gI M' (m + 9) (2 * k + 1) = gI M (m + 9) (2 * k + 1) ∧ (∀ u, lo ≤ u → u ≤ hi → ∃ d, TT S t0 c0 u = some d ∧ st4 M' m k u d) ∧ (lo = -300 ∨ TT S t0 c0 (lo - 1) = none) := by
  intro j
  induction j with
  | zero =>
    intro t M c f h1 h2 hz hS hT hc hst hal hf
    obtain ⟨f, rfl⟩ : ∃ y, f = y + 1 := ⟨f - 1, by omega⟩
    have e : t = -300 := by omega
    subst e
    refine ⟨M, -300, q_it_x ?_, fov.rf, by omega, by omega, hal, rfl, hst, Or.inl rfl⟩
    show fX7_follows_L163 m (nI k) 1 (sp (-300)) Z M = _
    unfold fX7_follows_L163
    rw [if_pos (by decide)]
  | succ j ih =>
    intro t M c f h1 h2 hz hS hT hc hst hal hf
    obtain ⟨f, rfl⟩ : ∃ y, f = y + 1 := ⟨f - 1, by omega⟩
    obtain ⟨M1, g1, g2, g3⟩ := e_goesBack (t := t) hz hS hok hc (TT_nl hT)
    have hF := TT_B hT
    have hx : ¬ sp t ≤ (-300 : Int32) := by
      rw [show (-300 : Int32) = sp (-300) from by decide, sp_le (by omega) (by omega) (by omega) (by omega)]; omega
    have hst1 : ∀ u, t ≤ u → u ≤ hi → ∃ d, TT S t0 c0 u = some d ∧ st4 M1 m k u d := fun u q1 q2 => by
      obtain ⟨d, w1, w2⟩ := hst u q1 q2
      exact ⟨d, w1, w2.mv (fun a _ _ i => g2.J (by omega) i)⟩
    generalize hbw : bw S (sp t) c = b at g1 g3 hF
    by_cases hl : lost b.1 b.2.1
    · rw [if_pos hl] at hF
      obtain ⟨f, rfl⟩ : ∃ y, f = y + 1 := ⟨f - 1, by omega⟩
      have body : fX7_follows_L163 m (nI k) 1 (sp t) Z M = some (.inl (0, sp (t - 1), M1)) := by
        unfold fX7_follows_L163 fX7_follows_b213
        rw [if_neg hx, if_neg (by decide), q_gdk hz.1, g1, q_b2s, bi_f (fun q => q hl), if_pos rfl]
        simp only [q_nm]
        rw [sp_n]
      rw [q_it_s (y := (0, sp (t - 1), M1)) body]
      refine ⟨M1, t, q_it_x ?_, g2.f, by omega, by omega, by rw [g2.I]; exact hal, g2.I _ _, hst1, Or.inr hF⟩
      show fX7_follows_L163 m (nI k) 0 (sp (t - 1)) Z M1 = _
      unfold fX7_follows_L163
      by_cases hy : sp (t - 1) ≤ (-300 : Int32)
      · rw [if_pos hy]
      · rw [if_neg hy, if_pos rfl]
    · rw [if_neg hl] at hF
      obtain ⟨M2, s1, s2, s3, s4, s5, s6⟩ := e_stores (k := k) (t := t - 1) (hz.mv g2.2.1) hk (by omega) (by omega) g3
      obtain ⟨ok1, ok2⟩ := okAl0 hz hk
      have body : fX7_follows_L163 m (nI k) 1 (sp t) Z M = some (.inl (1, sp (t - 1), sI M2 (m + 9) (2 * k) (sp (t - 1)))) := by
        unfold fX7_follows_L163 fX7_follows_b213
        rw [if_neg hx, if_neg (by decide), q_gdk hz.1, g1, q_b2s, bi_t hl, if_neg (by decide), sp_m, s1, q_bis, ((hz.mv g2.2.1).mv s3.1).a (f := 16) (k := 8) (by decide) rfl, q_bis, q_gdc ok1, ok2]
        simp only [q_nm]
        rw [sp_n]
      rw [q_it_s (y := (1, sp (t - 1), sI M2 (m + 9) (2 * k) (sp (t - 1)))) body]
      have mv : fov m k M (sI M2 (m + 9) (2 * k) (sp (t - 1))) := ((g2.f).tr s3).al (2 * k) (Or.inl rfl) _
      obtain ⟨M', lo, b1, b2, b3, b4, b5, b6, b7, b8⟩ := ih (t - 1) _ _ f (by omega) (by omega) (hz.mv mv.1) (mv.sk hS) hF s4 (fun u q1 q2 => by
        by_cases hu : u = t - 1
        · subst hu; exact ⟨_, hF, s2⟩
        · obtain ⟨d, w1, w2⟩ := hst1 u (by omega) q2
          exact ⟨d, w1, s6 u d (by omega) hu w2⟩) (gI_same _ _ _ _) (by omega)
      refine ⟨M', lo, b1, mv.tr b2, b3, by omega, b5, ?_, b7, b8⟩
      rw [b6, gI_k _ _ _ _ (by omega)]
      have : gI M2 (m + 9) (2 * k + 1) = gI M1 (m + 9) (2 * k + 1) := by unfold gI; rw [s5]
      rw [this, g2.I]
/-- way k is stored: where it is there, and its states -/
def M_tr (M : q_C) (m k : Nat) (S : q_SK) (t0 : Int) (c0 : q_cs) : Prop := ∃ lo hi : Int, -300 ≤ lo ∧ lo ≤ 301 ∧ -300 ≤ hi ∧ hi ≤ 300 ∧ gI M (m + 9) (2 * k) = sp lo ∧ gI M (m + 9) (2 * k + 1) = sp hi ∧ ∀ t, -300 ≤ t → t ≤ 300 → ((lo ≤ t ∧ t ≤ hi) ↔ (TT S t0 c0 t).isSome = true) ∧ ∀ c, TT S t0 c0 t = some c → st4 M m k t c
theorem e_follows {Z : q_Z} {M : q_C} {m k : Nat} {S : q_SK} {t0 : Int} {c0 : q_cs} (hz : zM Z M m) (hS : M_sk M m S) (hok : okSK S) (hk : k < 100) (h1 : -300 ≤ t0) (h2 : t0 ≤ 300) (hc : mst M m c0) :
    ∃ M', fX7_follows m (nI k) (sp t0) Z M = some M' ∧ fov m k M M' ∧ M_tr M' m k S t0 c0 := by
  obtain ⟨c1, c2, c3, c4⟩ := id hc
  obtain ⟨k1, k2⟩ := okAl0 hz hk
  obtain ⟨k3, k4⟩ := okAl (j := 1) hz hk (by decide)
  rw [show nI 1 = (1 : Int32) from rfl] at k3 k4
  unfold fX7_follows fX7_follows_b134 fX7_follows_b219
  rw [q_gdk hz.1]
  simp only [q_nm]
  rw [c1, c2, c3, c4, hz.a (f := 16) (k := 8) (by decide) rfl, q_bis, q_gdc k1, k2, sp_1]
  generalize hM1 : sI M (m + 1 + 8) (2 * k) (sp (t0 + 1)) = M1
  have m1 : fov m k M M1 := by rw [← hM1]; exact fov.rf.al (2 * k) (Or.inl rfl) _
  have st1 : mst M1 m c0 := by rw [← hM1]; exact hc
  rw [(hz.mv m1.1).a (f := 16) (k := 8) (by decide) rfl, q_bis, q_gdc k3, k4]
  have l1 : gI M1 (m + 9) (2 * k) = sp (t0 + 1) := by rw [← hM1]; exact gI_same _ _ _ _
  generalize hM2 : sI M1 (m + 1 + 8) (2 * k + 1) (sp t0) = M2
  have m2 : fov m k M M2 := by rw [← hM2]; exact m1.al (2 * k + 1) (Or.inr rfl) _
  have st2 : mst M2 m c0 := by rw [← hM2]; exact st1
  have l2 : gI M2 (m + 9) (2 * k) = sp (t0 + 1) := by rw [← hM2, gI_k _ _ _ _ (by omega)]; exact l1
  have l3 : gI M2 (m + 9) (2 * k + 1) = sp t0 := by rw [← hM2]; exact gI_same _ _ _ _
  rw [e_isLost, q_bis]
  by_cases hl : lost c0.1 c0.2.1
  · rw [bi_t hl, if_neg (by decide)]
    have hn : TT S t0 c0 t0 = none := by rw [TT_0, if_pos hl]
    refine ⟨M2, rfl, m2, t0 + 1, t0, by omega, by omega, by omega, by omega, l2, l3, fun t g1 g2 => ?_⟩
    have hnt : TT S t0 c0 t = none := by
      by_cases q : t0 ≤ t
      · have := TT_nF (Int.le_refl t0) hn (t - t0).toNat
        rw [show t0 + (((t - t0).toNat : Nat) : Int) = t by omega] at this
        exact this
      · have := TT_nB (Int.le_refl t0) hn (t0 - t).toNat
        rw [show t0 - (((t0 - t).toNat : Nat) : Int) = t by omega] at this
        exact this
    rw [hnt]
    exact ⟨⟨fun q => by omega, fun q => by cases q⟩, fun c q => by cases q⟩
  · rw [bi_f hl, if_pos rfl, (hz.mv m2.1).a (f := 16) (k := 8) (by decide) rfl, q_bis, q_gdc k1]
    have hT : TT S t0 c0 t0 = some c0 := by rw [TT_0, if_neg hl]
    generalize hM3 : sI M2 (m + 1 + 8) (2 * k) (sp t0) = M3
    have m3 : fov m k M M3 := by rw [← hM3]; exact m2.al (2 * k) (Or.inl rfl) _
    have st3 : mst M3 m c0 := by rw [← hM3]; exact st2
    have l4 : gI M3 (m + 9) (2 * k) = sp t0 := by rw [← hM3]; exact gI_same _ _ _ _
    have l5 : gI M3 (m + 9) (2 * k + 1) = sp t0 := by rw [← hM3, gI_k _ _ _ _ (by omega)]; exact l3
    obtain ⟨M4, s1, s2, s3, s4, s5, s6⟩ := e_stores (k := k) (t := t0) (hz.mv m3.1) hk h1 h2 st3
    have m4 := m3.tr s3
    have i4 : ∀ j, gI M4 (m + 9) j = gI M3 (m + 9) j := fun j => by unfold gI; rw [s5]
    rw [s1, q_bis]
    obtain ⟨M5, hi, f1, f2, f3, f4, f5, f6, f7, f8⟩ := e_ff (k := k) (a2 := sp t0) (a3 := c0.1) (a5 := c0.2.1) (a7 := c0.2.2.1) (a9 := c0.2.2.2) hok hk h1 (300 - t0).toNat t0 M4 c0 q_FU (by omega) (Int.le_refl _) (hz.mv m4.1) (m4.sk hS) hT s4 (fun u q1 q2 => by
      obtain rfl : u = t0 := by omega
      exact ⟨c0, hT, s2⟩) (by rw [i4]; exact l5) (by unfold q_FU; omega)
    rw [f1, q_bis, q_gdk hz.1]
    have m5 := m4.tr f2
    obtain ⟨p1, p2⟩ := mst_put M5 m c0.1 c0.2.1 c0.2.2.1 c0.2.2.2
    generalize hM6 : sJ (sJ (sJ (sJ M5 m 22 c0.1) m 23 c0.2.1) m 24 c0.2.2.1) m 25 c0.2.2.2 = M6 at p1 p2
    have m6 := m5.tr (p2.f (k := k))
    obtain ⟨M7, lo, b1, b2, b3, b4, b5, b6, b7, b8⟩ := e_fb (k := k) (hi := hi) hok hk h2 (t0 + 300).toNat t0 M6 c0 q_FU (by omega) (Int.le_refl _) (hz.mv m6.1) (m6.sk hS) hT p1 (fun u q1 q2 => by
      obtain ⟨d, w1, w2⟩ := f7 u q1 q2
      exact ⟨d, w1, w2.mv (fun a _ _ i => p2.J (by omega) i)⟩) (by rw [p2.I, f6, i4]; exact l4) (by unfold q_FU; omega)
    rw [b1, q_bis]
    refine ⟨M7, rfl, m6.tr b2, lo, hi, by omega, by omega, by omega, by omega, b5, by rw [b6, p2.I]; exact f5, fun t g1 g2 => ⟨⟨fun q => ?_, fun q => ?_⟩, fun c q => ?_⟩⟩
    · obtain ⟨d, w1, w2⟩ := b7 t q.1 q.2
      rw [w1]; rfl
    · refine ⟨?_, ?_⟩
      · rcases b8 with w | w
        · omega
        · rcases Int.lt_or_le t lo with w2 | w2
          · have := TT_nB (by omega) w (lo - 1 - t).toNat
            rw [show lo - 1 - (((lo - 1 - t).toNat : Nat) : Int) = t by omega] at this
            rw [this] at q; cases q
          · exact w2
      · rcases f8 with w | w
        · omega
        · rcases Int.lt_or_le hi t with w2 | w2
          · have := TT_nF (by omega) w (t - (hi + 1)).toNat
            rw [show hi + 1 + (((t - (hi + 1)).toNat : Nat) : Int) = t by omega] at this
            rw [this] at q; cases q
          · exact w2
    · have hr : lo ≤ t ∧ t ≤ hi := by
        refine ⟨?_, ?_⟩
        · rcases b8 with w | w
          · omega
          · rcases Int.lt_or_le t lo with w2 | w2
            · have := TT_nB (by omega) w (lo - 1 - t).toNat
              rw [show lo - 1 - (((lo - 1 - t).toNat : Nat) : Int) = t by omega] at this
              rw [this] at q; cases q
            · exact w2
        · rcases f8 with w | w
          · omega
          · rcases Int.lt_or_le hi t with w2 | w2
            · have := TT_nF (by omega) w (t - (hi + 1)).toNat
              rw [show hi + 1 + (((t - (hi + 1)).toNat : Nat) : Int) = t by omega] at this
              rw [this] at q; cases q
            · exact w2
      obtain ⟨d, w1, w2⟩ := b7 t hr.1 hr.2
      rw [q] at w1
      cases w1
      exact w2
