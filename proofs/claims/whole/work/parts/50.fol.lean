/-! the model follows a way and stores it -/
def ix (k : Nat) (t : Int) : Nat := 601 * k + (t + 300).toNat
def st4 (M : q_C) (m k : Nat) (t : Int) (c : q_cs) : Prop := gJ M (m + 10) (ix k t) = c.1 ∧ gJ M (m + 11) (ix k t) = c.2.1 ∧ gJ M (m + 12) (ix k t) = c.2.2.1 ∧ gJ M (m + 13) (ix k t) = c.2.2.2
/-- what following way k may change -/
def fov (m k : Nat) (M M' : q_C) : Prop := M'.2.2 = M.2.2 ∧ (∀ a j, ¬ (a = m + 9 ∧ (j = 2 * k ∨ j = 2 * k + 1)) → gI M' a j = gI M a j) ∧ (∀ a j, a ≠ m → ¬ (m + 10 ≤ a ∧ a ≤ m + 13 ∧ 601 * k ≤ j ∧ j < 601 * k + 601) → gJ M' a j = gJ M a j)
theorem fov.rf {m k : Nat} {M : q_C} : fov m k M M := ⟨rfl, fun _ _ _ => rfl, fun _ _ _ _ => rfl⟩
theorem fov.tr {m k : Nat} {M M1 M2 : q_C} (a : fov m k M M1) (b : fov m k M1 M2) : fov m k M M2 := ⟨b.1.trans a.1, fun x j h => (b.2.1 x j h).trans (a.2.1 x j h), fun x j h h2 => (b.2.2 x j h h2).trans (a.2.2 x j h h2)⟩
theorem mmv.f {m k : Nat} {M M' : q_C} (a : mmv m M M') : fov m k M M' := ⟨a.2.1, fun x j _ => a.I x j, fun x j h _ => a.J h j⟩
theorem fov.al {m k : Nat} {M M1 : q_C} (a : fov m k M M1) (j : Nat) (hj : j = 2 * k ∨ j = 2 * k + 1) (v : Int32) : fov m k M (sI M1 (m + 9) j v) := by
  refine ⟨a.1, fun x i h => ?_, fun x i h h2 => by rw [gJ_sI]; exact a.2.2 x i h h2⟩
  rw [gI_sI, if_neg (fun q => h ⟨q.1, by rw [q.2]; exact hj⟩)]
  exact a.2.1 x i h
theorem fov.tb {m k no to w : Nat} {M M' : q_C} {T : q_TB} (a : fov m k M M') (h : M_tb M no to w T) (h1 : no ≠ m + 9) (h2 : to ≠ m + 9) : M_tb M' no to w T := by
  refine ⟨h.1, ?_, fun i hi => ⟨?_, ?_⟩⟩
  · rw [a.2.1 _ _ (fun q => h1 q.1)]; exact h.2.1
  · rw [a.2.1 _ _ (fun q => h2 q.1)]; exact (h.2.2 i hi).1
  · rw [a.2.1 _ _ (fun q => h2 q.1)]; exact (h.2.2 i hi).2
theorem fov.sk {m k : Nat} {M M' : q_C} {S : q_SK} (a : fov m k M M') (h : M_sk M m S) : M_sk M' m S := by
  refine ⟨a.tb h.1 (by omega) (by omega), a.tb h.2.1 (by omega) (by omega), ?_, ?_⟩
  · rw [a.2.1 _ _ (fun q => by omega)]; exact h.2.2.1
  · rw [a.2.1 _ _ (fun q => by omega)]; exact h.2.2.2
theorem fov.sg {m k n : Nat} {M M' : q_C} {sg : Nat → Nat → Int32} (a : fov m k M M') (h : M_sg M m n sg) : M_sg M' m n sg := by
  refine ⟨h.1, ?_, fun i hi j hj => ?_⟩
  · rw [a.2.1 _ _ (fun q => by omega)]; exact h.2.1
  · rw [a.2.1 _ _ (fun q => by omega)]; exact h.2.2 i hi j hj
theorem i_ix {k : Nat} {t : Int} (h1 : -300 ≤ t) (h2 : t ≤ 300) : (601 : Int32) * nI k + sp t + (300 : Int32) = nI (ix k t) := by
  have e : sp t + (300 : Int32) = nI (t + 300).toNat := by
    refine i_eq ?_
    rw [nI_toInt (by omega), Int32.toInt_add, sp_T (by omega) (by omega), show (300 : Int32).toInt = 300 from rfl, l_bm32 (by omega) (by omega)]
    omega
  rw [Int32.add_assoc, e, show (601 : Int32) = nI 601 from rfl, pk_mul, nI_add]
  rfl
theorem e_stores {Z : q_Z} {M : q_C} {m k : Nat} {t : Int} {c : q_cs} (hz : zM Z M m) (hk : k < 100) (h1 : -300 ≤ t) (h2 : t ≤ 300) (hc : mst M m c) :
    ∃ M', fX7_stores m (nI k) (sp t) Z M = some M' ∧ st4 M' m k t c ∧ fov m k M M' ∧ mst M' m c ∧ M'.1 = M.1 ∧ (∀ (u : Int) (d : q_cs), -300 ≤ u → u ≠ t → st4 M m k u d → st4 M' m k u d) := by
  obtain ⟨c0, c1, c2, c3⟩ := hc
  have hi : ix k t < 60100 := by unfold ix; omega
  have ok : ∀ j, 9 ≤ j → j < 13 → q_ok Z (m + 1 + j) 2 (nI (ix k t)) = true := fun j g1 g2 => q_okT (hz.k2 g1 (by omega)) rfl (by omega) (by
    rw [(hz.2 j (by omega)).2.2]
    rcases (show j = 9 ∨ j = 10 ∨ j = 11 ∨ j = 12 by omega) with rfl | rfl | rfl | rfl <;> exact hi)
  have rr : ∀ (M1 : q_C), M1.2.2 = M.2.2 → ∀ f j, j < 17 → mFd j = f → gR M1 m f = some (m + 1 + j) := fun M1 e f j g1 g2 => (hz.mv e).a g1 g2
  unfold fX7_stores
  simp only [q_nm]
  rw [i_ix h1 h2, q_gdk hz.1, nI_clamp (by omega)]
  rw [rr M rfl 17 9 (by decide) rfl, q_bis, q_gdc (ok 9 (by decide) (by decide)), c0]
  generalize hM1 : sJ M (m + 1 + 9) (ix k t) c.1 = M1
  have q1 : M1.2.2 = M.2.2 := by rw [← hM1]; rfl
  have a1 : ∀ j, gJ M1 m j = gJ M m j := fun j => by rw [← hM1, gJ_a _ _ _ _ (by omega)]
  rw [rr M1 q1 18 10 (by decide) rfl, q_bis, q_gdc (ok 10 (by decide) (by decide)), a1, c1]
  generalize hM2 : sJ M1 (m + 1 + 10) (ix k t) c.2.1 = M2
  have q2 : M2.2.2 = M.2.2 := by rw [← hM2]; exact q1
  have a2 : ∀ j, gJ M2 m j = gJ M m j := fun j => by rw [← hM2, gJ_a _ _ _ _ (by omega), a1]
  rw [rr M2 q2 19 11 (by decide) rfl, q_bis, q_gdc (ok 11 (by decide) (by decide)), a2, c2]
  generalize hM3 : sJ M2 (m + 1 + 11) (ix k t) c.2.2.1 = M3
  have q3 : M3.2.2 = M.2.2 := by rw [← hM3]; exact q2
  have a3 : ∀ j, gJ M3 m j = gJ M m j := fun j => by rw [← hM3, gJ_a _ _ _ _ (by omega), a2]
  rw [rr M3 q3 20 12 (by decide) rfl, q_bis, q_gdc (ok 12 (by decide) (by decide)), a3, c3]
  generalize hM4 : sJ M3 (m + 1 + 12) (ix k t) c.2.2.2 = M4
  have q4 : M4.2.2 = M.2.2 := by rw [← hM4]; exact q3
  have a4 : ∀ j, gJ M4 m j = gJ M m j := fun j => by rw [← hM4, gJ_a _ _ _ _ (by omega), a3]
  have i4 : M4.1 = M.1 := by rw [← hM4, ← hM3, ← hM2, ← hM1]; rfl
  have keep : ∀ (u : Int), -300 ≤ u → u ≠ t → ∀ a, gJ M4 a (ix k u) = gJ M a (ix k u) := by
    intro u hu hne a
    have hn : ix k u ≠ ix k t := by unfold ix; omega
    rw [← hM4, gJ_k _ _ _ _ hn, ← hM3, gJ_k _ _ _ _ hn, ← hM2, gJ_k _ _ _ _ hn, ← hM1, gJ_k _ _ _ _ hn]
  refine ⟨M4, rfl, ⟨?_, ?_, ?_, ?_⟩, ⟨q4, fun a j _ => by unfold gI; rw [i4], fun a j g1 g2 => ?_⟩, ⟨by rw [a4]; exact c0, by rw [a4]; exact c1, by rw [a4]; exact c2, by rw [a4]; exact c3⟩, i4, fun u d hu hne hd => ?_⟩
  · rw [← hM4, gJ_a _ _ _ _ (by omega), ← hM3, gJ_a _ _ _ _ (by omega), ← hM2, gJ_a _ _ _ _ (by omega), ← hM1]; exact gJ_same _ _ _ _
  · rw [← hM4, gJ_a _ _ _ _ (by omega), ← hM3, gJ_a _ _ _ _ (by omega), ← hM2]; exact gJ_same _ _ _ _
  · rw [← hM4, gJ_a _ _ _ _ (by omega), ← hM3]; exact gJ_same _ _ _ _
  · rw [← hM4]; exact gJ_same _ _ _ _
  · have hne : ∀ b, m + 10 ≤ b → b ≤ m + 13 → ¬ (a = b ∧ j = ix k t) := fun b g3 g4 g5 => g2 ⟨by omega, by omega, by rw [g5.2]; unfold ix; omega, by rw [g5.2]; unfold ix; omega⟩
    rw [← hM4, gJ_sJ, if_neg (hne _ (by omega) (by omega)), ← hM3, gJ_sJ, if_neg (hne _ (by omega) (by omega)), ← hM2, gJ_sJ, if_neg (hne _ (by omega) (by omega)), ← hM1, gJ_sJ, if_neg (hne _ (by omega) (by omega))]
  · unfold st4 at hd ⊢
    rw [keep u hu hne, keep u hu hne, keep u hu hne, keep u hu hne]
    exact hd
theorem st4.mv {M M' : q_C} {m k : Nat} {t : Int} {c : q_cs} (h : st4 M m k t c) (e : ∀ a, m + 10 ≤ a → a ≤ m + 13 → ∀ j, gJ M' a j = gJ M a j) : st4 M' m k t c := by
  unfold st4 at h ⊢
  rw [e _ (by omega) (by omega), e _ (by omega) (by omega), e _ (by omega) (by omega), e _ (by omega) (by omega)]
  exact h
theorem okAl {Z : q_Z} {M : q_C} {m k j : Nat} (hz : zM Z M m) (hk : k < 100) (hj : j < 2) : q_ok Z (m + 1 + 8) 1 ((2 : Int32) * nI k + nI j) = true ∧ ((2 : Int32) * nI k + nI j).toNatClampNeg = 2 * k + j := by
  have e : (2 : Int32) * nI k + nI j = nI (2 * k + j) := by rw [show (2 : Int32) = nI 2 from rfl, pk_mul, nI_add]
  refine ⟨q_okT (hz.k1 (k := 8) (by decide)) e (by omega) (by rw [hz.l (k := 8) (n := 200) (by decide) rfl]; omega), ?_⟩
  rw [e, nI_clamp (by omega)]
theorem okAl0 {Z : q_Z} {M : q_C} {m k : Nat} (hz : zM Z M m) (hk : k < 100) : q_ok Z (m + 1 + 8) 1 ((2 : Int32) * nI k) = true ∧ ((2 : Int32) * nI k).toNatClampNeg = 2 * k := by
  have e : (2 : Int32) * nI k = nI (2 * k) := by rw [show (2 : Int32) = nI 2 from rfl, pk_mul]
  refine ⟨q_okT (hz.k1 (k := 8) (by decide)) e (by omega) (by rw [hz.l (k := 8) (n := 200) (by decide) rfl]; omega), ?_⟩
  rw [e, nI_clamp (by omega)]
/-- on to the end -/
theorem e_ff {Z : q_Z} {m k : Nat} {S : q_SK} {t0 : Int} {c0 : q_cs} (hok : okSK S) (hk : k < 100) (h0 : -300 ≤ t0) {a2 : Int32} {a3 a5 a7 a9 : Int64} : ∀ (j : Nat) (t : Int) (M : q_C) (c : q_cs) (f : Nat), t + j = 300 → t0 ≤ t → zM Z M m → M_sk M m S → TT S t0 c0 t = some c → mst M m c → (∀ u, t0 ≤ u → u ≤ t → ∃ d, TT S t0 c0 u = some d ∧ st4 M m k u d) → gI M (m + 9) (2 * k + 1) = sp t → j + 2 < f →
    ∃ (M' : q_C) (hi : Int), q_it (fun x : Int32 × Int32 × q_C => fX7_follows_L76 m (nI k) a2 a3 a5 a7 a9 x.1 x.2.1 Z x.2.2) f (1, sp t, M) = some M' ∧ fov m k M M' ∧ t ≤ hi ∧ hi ≤ 300 ∧ gI M' (m + 9) (2 * k + 1) = sp hi ∧ gI M' (m + 9) (2 * k) = gI M (m + 9) (2 * k) ∧ (∀ u, t0 ≤ u → u ≤ hi → ∃ d, TT S t0 c0 u = some d ∧ st4 M' m k u d) ∧ (hi = 300 ∨ TT S t0 c0 (hi + 1) = none) := by
  intro j
  induction j with
  | zero =>
    intro t M c f h1 h2 hz hS hT hc hst hal hf
    obtain ⟨f, rfl⟩ : ∃ y, f = y + 1 := ⟨f - 1, by omega⟩
    have e : t = 300 := by omega
    subst e
    refine ⟨M, 300, q_it_x ?_, fov.rf, by omega, by omega, hal, rfl, hst, Or.inl rfl⟩
    show fX7_follows_L76 m (nI k) a2 a3 a5 a7 a9 1 (sp 300) Z M = _
    unfold fX7_follows_L76
    rw [if_pos (by decide)]
  | succ j ih =>
    intro t M c f h1 h2 hz hS hT hc hst hal hf
    obtain ⟨f, rfl⟩ : ∃ y, f = y + 1 := ⟨f - 1, by omega⟩
    obtain ⟨M1, g1, g2, g3⟩ := e_goesOn (t := t) hz hS hok hc
    have hF := TT_F hT
    have hx : ¬ (300 : Int32) ≤ sp t := by
      rw [show (300 : Int32) = sp 300 from rfl, sp_le (by omega) (by omega) (by omega) (by omega)]; omega
    have hst1 : ∀ u, t0 ≤ u → u ≤ t → ∃ d, TT S t0 c0 u = some d ∧ st4 M1 m k u d := fun u q1 q2 => by
      obtain ⟨d, w1, w2⟩ := hst u q1 q2
      exact ⟨d, w1, w2.mv (fun a _ _ i => g2.J (by omega) i)⟩
    by_cases hl : lost (c.1 + c.2.2.1) (c.2.1 + c.2.2.2)
    · rw [if_pos hl] at hF
      obtain ⟨f, rfl⟩ : ∃ y, f = y + 1 := ⟨f - 1, by omega⟩
      have body : fX7_follows_L76 m (nI k) a2 a3 a5 a7 a9 1 (sp t) Z M = some (.inl (0, sp (t + 1), M1)) := by
        unfold fX7_follows_L76 fX7_follows_b128
        rw [if_neg hx, if_neg (by decide), q_gdk hz.1, g1, q_b2s, bi_f (fun q => q hl), if_pos rfl]
        simp only [q_nm]
        rw [sp_1]
      rw [q_it_s (y := (0, sp (t + 1), M1)) body]
      refine ⟨M1, t, q_it_x ?_, g2.f, by omega, by omega, by rw [g2.I]; exact hal, g2.I _ _, hst1, Or.inr hF⟩
      show fX7_follows_L76 m (nI k) a2 a3 a5 a7 a9 0 (sp (t + 1)) Z M1 = _
      unfold fX7_follows_L76
      by_cases hy : (300 : Int32) ≤ sp (t + 1)
      · rw [if_pos hy]
      · rw [if_neg hy, if_pos rfl]
    · rw [if_neg hl] at hF
      obtain ⟨M2, s1, s2, s3, s4, s5, s6⟩ := e_stores (k := k) (t := t + 1) (hz.mv g2.2.1) hk (by omega) (by omega) (g3 hl)
      obtain ⟨ok1, ok2⟩ := okAl (j := 1) hz hk (by decide)
      rw [show nI 1 = (1 : Int32) from rfl] at ok1 ok2
      have body : fX7_follows_L76 m (nI k) a2 a3 a5 a7 a9 1 (sp t) Z M = some (.inl (1, sp (t + 1), sI M2 (m + 9) (2 * k + 1) (sp (t + 1)))) := by
        unfold fX7_follows_L76 fX7_follows_b128
        rw [if_neg hx, if_neg (by decide), q_gdk hz.1, g1, q_b2s, bi_t hl, if_neg (by decide), sp_1, s1, q_bis, ((hz.mv g2.2.1).mv s3.1).a (f := 16) (k := 8) (by decide) rfl, q_bis, q_gdc ok1, ok2]
        rfl
      rw [q_it_s (y := (1, sp (t + 1), sI M2 (m + 9) (2 * k + 1) (sp (t + 1)))) body]
      have mv : fov m k M (sI M2 (m + 9) (2 * k + 1) (sp (t + 1))) := ((g2.f).tr s3).al (2 * k + 1) (Or.inr rfl) _
      obtain ⟨M', hi, b1, b2, b3, b4, b5, b6, b7, b8⟩ := ih (t + 1) _ _ f (by omega) (by omega) (hz.mv mv.1) (mv.sk hS) hF s4 (fun u q1 q2 => by
        by_cases hu : u = t + 1
        · subst hu; exact ⟨_, hF, s2⟩
        · obtain ⟨d, w1, w2⟩ := hst1 u q1 (by omega)
          exact ⟨d, w1, s6 u d (by omega) hu w2⟩) (gI_same _ _ _ _) (by omega)
      refine ⟨M', hi, b1, mv.tr b2, by omega, b4, b5, ?_, b7, b8⟩
      rw [b6, gI_k _ _ _ _ (by omega)]
      have : gI M2 (m + 9) (2 * k) = gI M1 (m + 9) (2 * k) := by unfold gI; rw [s5]
      rw [this, g2.I]
