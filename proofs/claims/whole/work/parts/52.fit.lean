/-! whether a place fits a sight -/
def ab (x : Int64) : Int64 := if (0 : Int64) ≤ x then x else -x
def tkp (s : Nat → Int32) (E : q_TB) (x : Int64) : Int64 := if s 0 = 1 then x else x - (tpx E (s 1)).toInt64
def tkq (s : Nat → Int32) (E : q_TB) (y : Int64) : Int64 := if s 0 = 1 then y else y - (tpy E (s 1)).toInt64
abbrev tkd (s : Nat → Int32) (p q : Int64) : Prop := ¬ ((s 2).toInt64 * p + (s 3).toInt64 * q ≤ 0) ∧ ¬ ((s 4).toInt64 * ((s 2).toInt64 * p + (s 3).toInt64 * q) < 1000 * ab ((s 2).toInt64 * q - (s 3).toInt64 * p))
def ftb (s : Nat → Int32) (E : q_TB) (o : Option q_cs) : Bool := match o with
  | none => false
  | some c => decide (tkd s (tkp s E c.1) (tkq s E c.2.1))
theorem e_abs (x : Int64) : fJ9_abs_067f4 x = some (ab x) := by
  unfold fJ9_abs_067f4 fJ9_abs_067f4_b12 ab
  by_cases h : (0 : Int64) ≤ x
  · rw [if_pos h, if_pos h]
  · rw [if_neg h, if_neg h]
theorem e_takes {Z : q_Z} {M : q_C} {h o : Nat} {s : Nat → Int32} {E : q_TB} (hz : zK Z h = 12) (hs : ∀ k, k < 5 → gI M h k = s k) (hT : zT Z M o) (hE : B_tb M o E) (x y : Int64) : fX2_takes h (some o) x y Z M = some (bi (tkd s (tkp s E x) (tkq s E y))) := by
  have h50 : ∀ p q : Int64, fX2_takes_b50 h p q Z M = some (bi (tkd s p q)) := by
    intro p q
    unfold fX2_takes_b50 fX2_takes_b122 fX2_takes_b123
    rw [q_gdk hz, hs 2 (by decide), hs 3 (by decide), hs 4 (by decide)]
    simp only [q_nm]
    rw [e_abs, q_bis]
    by_cases h1 : (s 2).toInt64 * p + (s 3).toInt64 * q ≤ 0
    · rw [if_pos h1, q_gdc (by decide), bi_f (fun w => w.1 h1)]
    · rw [if_neg h1]
      by_cases h2 : (s 4).toInt64 * ((s 2).toInt64 * p + (s 3).toInt64 * q) < 1000 * ab ((s 2).toInt64 * q - (s 3).toInt64 * p)
      · rw [if_pos h2, q_gdc (by decide), bi_f (fun w => w.2 h2)]
      · rw [if_neg h2, q_gdc (by decide), bi_t ⟨h1, h2⟩]
  unfold fX2_takes fX2_takes_b23 tkp tkq
  rw [q_gdk hz, hs 0 (by decide), hs 1 (by decide)]
  by_cases h0 : s 0 = 1
  · rw [if_pos h0, q_gdk hz, if_pos h0, if_pos h0, if_pos h0]
    exact h50 _ _
  · rw [if_neg h0, if_neg h0, if_neg h0, q_bis, q_gdk hT.1, e_xAt hT hE, q_bis, q_gdk hz, if_neg h0, q_bis, q_gdk hT.1, e_yAt hT hE, q_bis]
    exact h50 _ _
theorem e_isThere {Z : q_Z} {M : q_C} {m k : Nat} {S : q_SK} {t0 t : Int} {c0 : q_cs} (hz : zM Z M m) (hk : k < 100) (hT : M_tr M m k S t0 c0) (h1 : -300 ≤ t) (h2 : t ≤ 300) : fX7_isThere m (nI k) (sp t) Z M = some (bi ((TT S t0 c0 t).isSome = true)) := by
  obtain ⟨lo, hi, b1, b2, b3, b4, b5, b6, b7⟩ := hT
  obtain ⟨k1, k2⟩ := okAl0 hz hk
  obtain ⟨k3, k4⟩ := okAl (j := 1) hz hk (by decide)
  rw [show nI 1 = (1 : Int32) from rfl] at k3 k4
  have b5 : gI M (m + 1 + 8) (2 * k) = sp lo := b5
  have b6 : gI M (m + 1 + 8) (2 * k + 1) = sp hi := b6
  have hb := (b7 t h1 h2).1
  unfold fX7_isThere fX7_isThere_b30 fX7_isThere_b31
  rw [q_gdk hz.1, hz.a (f := 16) (k := 8) (by decide) rfl, q_bis, q_gdc k1, k2, b5, q_bis, q_gdc k3, k4, b6]
  by_cases q1 : sp t < sp lo
  · rw [if_pos q1, q_gdc (by decide), bi_f (fun w => ?_)]
    have := hb.mpr w
    rw [Int32.lt_iff_toInt_lt, sp_T (by omega) (by omega), sp_T (by omega) (by omega)] at q1
    omega
  · rw [if_neg q1]
    rw [Int32.lt_iff_toInt_lt, sp_T (by omega) (by omega), sp_T (by omega) (by omega)] at q1
    by_cases q2 : sp hi < sp t
    · rw [if_pos q2, q_gdc (by decide), bi_f (fun w => ?_)]
      have := hb.mpr w
      rw [Int32.lt_iff_toInt_lt, sp_T (by omega) (by omega), sp_T (by omega) (by omega)] at q2
      omega
    · rw [if_neg q2, q_gdc (by decide), bi_t (hb.mp ?_)]
      rw [Int32.lt_iff_toInt_lt, sp_T (by omega) (by omega), sp_T (by omega) (by omega)] at q2
      omega
theorem okX {Z : q_Z} {M : q_C} {m k j : Nat} {t : Int} (hz : zM Z M m) (hk : k < 100) (h1 : -300 ≤ t) (h2 : t ≤ 300) (hj : 9 ≤ j) (hj2 : j < 13) : q_ok Z (m + 1 + j) 2 (nI (ix k t)) = true ∧ (nI (ix k t)).toNatClampNeg = ix k t := by
  have hi : ix k t < 60100 := by unfold ix; omega
  refine ⟨q_okT (hz.k2 hj (by omega)) rfl (by omega) ?_, nI_clamp (by omega)⟩
  rw [(hz.2 j (by omega)).2.2]
  rcases (show j = 9 ∨ j = 10 ∨ j = 11 ∨ j = 12 by omega) with rfl | rfl | rfl | rfl <;> exact hi
theorem e_fitsAt {Z : q_Z} {M : q_C} {m k n i : Nat} {S : q_SK} {t0 : Int} {c0 : q_cs} {sg : Nat → Nat → Int32} {E : q_TB} {ex ey : Int64} (hz : zM Z M m) (hk : k < 100) (hT : M_tr M m k S t0 c0) (hg : M_sg M m n sg) (hi : i < n) (ho : okS1 (sg i)) (hex : ex = (tpx E (sg i 1)).toInt64) (hey : ey = (tpy E (sg i 1)).toInt64) :
    fX7_fitsAt m (nI k) (nI i) ex ey Z M = some (bi (ftb (sg i) E (TT S t0 c0 (sg i 1).toInt) = true)) := by
  obtain ⟨o1, v1⟩ := M_sg.at (k := 1) hz hg hi (by decide)
  obtain ⟨o2, v2⟩ := M_sg.at (k := 2) hz hg hi (by decide)
  obtain ⟨o3, v3⟩ := M_sg.at (k := 3) hz hg hi (by decide)
  obtain ⟨o4, v4⟩ := M_sg.at (k := 4) hz hg hi (by decide)
  obtain ⟨o0, v0⟩ := M_sg.at (k := 0) hz hg hi (by decide)
  rw [show nI 1 = (1 : Int32) from rfl] at o1 v1
  rw [show nI 2 = (2 : Int32) from rfl] at o2 v2
  rw [show nI 3 = (3 : Int32) from rfl] at o3 v3
  rw [show nI 4 = (4 : Int32) from rfl] at o4 v4
  rw [show nI 0 = (0 : Int32) from rfl, Int32.add_zero] at o0 v0
  have r1 := ho.2.1
  have hs1 : sg i 1 = sp (sg i 1).toInt := sp_of _
  have hth := e_isThere hz hk hT r1.1 r1.2
  have h165 : ∀ a b : Int64, fX7_fitsAt_b165 m (nI i) a b Z M = some (bi (¬ (a ≤ 0) ∧ ¬ ((sg i 4).toInt64 * a < 1000 * b))) := by
    intro a b
    unfold fX7_fitsAt_b165 fX7_fitsAt_b202 fX7_fitsAt_b203
    by_cases h1 : a ≤ 0
    · rw [if_pos h1, q_gdc (by decide), bi_f (fun w => w.1 h1)]
    · rw [if_neg h1, q_gdk hz.1, hz.a (f := 7) (k := 6) (by decide) rfl, q_bis, q_gdc o4, v4]
      by_cases h2 : (sg i 4).toInt64 * a < 1000 * b
      · rw [if_pos h2, q_gdc (by decide), bi_f (fun w => w.2 h2)]
      · rw [if_neg h2, q_gdc (by decide), bi_t ⟨h1, h2⟩]
  have h95 : ∀ p e y : Int64, fX7_fitsAt_b95 m (nI i) p e y Z M = some (bi (tkd (sg i) p (y - e))) := by
    intro p e y
    unfold fX7_fitsAt_b95
    simp only [q_nm]
    rw [q_gdk hz.1, hz.a (f := 7) (k := 6) (by decide) rfl, q_bis, q_gdc o2, v2, q_bis, q_gdc o3, v3, h165, h165]
    unfold tkd ab
    by_cases h0 : (0 : Int64) ≤ (sg i 2).toInt64 * (y - e) - (sg i 3).toInt64 * p
    · rw [if_pos h0, if_pos h0]
    · rw [if_neg h0, if_neg h0]
  unfold fX7_fitsAt
  rw [q_gdk hz.1, hz.a (f := 7) (k := 6) (by decide) rfl, q_bis, q_gdc o1, v1]
  simp only [q_nm]
  rw [← hs1] at hth
  rw [hth, q_bis, bi_if]
  cases hc : TT S t0 c0 (sg i 1).toInt with
  | none =>
    rw [if_neg (by simp), q_gdc (by decide), bi_f (by simp [ftb])]
  | some c =>
    obtain ⟨lo, hi2, b1, b2, b3, b4, b5, b6, b7⟩ := hT
    have hst := (b7 _ r1.1 r1.2).2 c hc
    obtain ⟨x1, x2⟩ := okX (j := 9) hz hk r1.1 r1.2 (by decide) (by decide)
    obtain ⟨y1, y2⟩ := okX (j := 10) hz hk r1.1 r1.2 (by decide) (by decide)
    have vx : gJ M (m + 1 + 9) (ix k (sg i 1).toInt) = c.1 := hst.1
    have vy : gJ M (m + 1 + 10) (ix k (sg i 1).toInt) = c.2.1 := hst.2.1
    have eix : (601 : Int32) * nI k + sg i 1 + 300 = nI (ix k (sg i 1).toInt) := by
      have := i_ix (k := k) r1.1 r1.2
      rw [← hs1] at this
      exact this
    rw [if_pos (by simp), q_bis, q_gdc o0, v0, eix]
    unfold fX7_fitsAt_b55 fX7_fitsAt_b74
    simp only [q_nm]
    unfold ftb tkp tkq
    by_cases ht : sg i 0 = 1
    · rw [if_pos ht, q_gdk hz.1, hz.a (f := 17) (k := 9) (by decide) rfl, q_bis, q_gdc x1, x2, vx, if_neg (by decide), q_gdk hz.1, hz.a (f := 18) (k := 10) (by decide) rfl, q_bis, q_gdc y1, vy, if_neg (by decide), h95, Int64.sub_zero, Int64.sub_zero]
      exact congrArg some (bi_ii (by dsimp only; rw [if_pos ht, if_pos ht]; exact decide_eq_true_iff.symm))
    · rw [if_neg ht, q_gdk hz.1, hz.a (f := 17) (k := 9) (by decide) rfl, q_bis, q_gdc x1, x2, vx, if_pos trivial, q_gdk hz.1, hz.a (f := 18) (k := 10) (by decide) rfl, q_bis, q_gdc y1, vy, if_pos trivial, h95, hex, hey]
      exact congrArg some (bi_ii (by dsimp only; rw [if_neg ht, if_neg ht]; exact decide_eq_true_iff.symm))
/-- whether a path fits the first n sights but one (annals don't count) -/
def fa (sg : Nat → Nat → Int32) (E : q_TB) (T : Int → Option q_cs) (but : Int32) : Nat → Bool
  | 0 => true
  | n + 1 => fa sg E T but n && (decide (nI n = but) || (decide (sg n 0 = 2) || ftb (sg n) E (T (sg n 1).toInt)))
theorem fa_no {sg : Nat → Nat → Int32} {E : q_TB} {T : Int → Option q_cs} {but : Int32} {j : Nat} (h : fa sg E T but j = false) : ∀ k, fa sg E T but (j + k) = false := by
  intro k
  induction k with
  | zero => exact h
  | succ k ih =>
    show (fa sg E T but (j + k) && _) = false
    rw [ih]; rfl
theorem e_fitsAll {Z : q_Z} {M : q_C} {m k n : Nat} {S S0 : q_SK} {t0 : Int} {c0 : q_cs} {sg : Nat → Nat → Int32} {but : Int32} (hz : zM Z M m) (hk : k < 100) (hT : M_tr M m k S t0 c0) (hg : M_sg M m n sg) (ho : ∀ i, i < n → okS1 (sg i)) (hS : M_sk M m S0) :
    fX7_fitsAll m (nI k) but Z M = some (bi (fa sg S0.1 (TT S t0 c0) but n = true)) := by
  have hn := hg.1
  have loop : ∀ (d j f : Nat), j + d = n → fa sg S0.1 (TT S t0 c0) but j = true → d + 1 < f → q_it (fun x : Int32 × Int32 => fX7_fitsAll_L5 m (nI k) but x.1 x.2 Z M) f (1, nI j) = some (bi (fa sg S0.1 (TT S t0 c0) but n = true)) := by
    intro d
    induction d with
    | zero =>
      intro j f h1 h2 h3
      obtain ⟨f, rfl⟩ : ∃ y, f = y + 1 := ⟨f - 1, by omega⟩
      obtain rfl : j = n := by omega
      refine q_it_x ?_
      show fX7_fitsAll_L5 m (nI k) but 1 (nI j) Z M = _
      unfold fX7_fitsAll_L5
      rw [q_gdk hz.1, hg.2.1, if_pos (Int32.le_refl _), bi_t h2]
    | succ d ih =>
      intro j f h1 h2 h3
      obtain ⟨f, rfl⟩ : ∃ y, f = y + 1 := ⟨f - 1, by omega⟩
      have hj : j < n := by omega
      have hcmp : ¬ gI M m 6 ≤ nI j := by rw [hg.2.1]; exact nI_ge hj (by omega)
      obtain ⟨o1, v1⟩ := M_sg.at (k := 1) hz hg hj (by decide)
      obtain ⟨o0, v0⟩ := M_sg.at (k := 0) hz hg hj (by decide)
      rw [show nI 1 = (1 : Int32) from rfl] at o1 v1
      rw [show nI 0 = (0 : Int32) from rfl, Int32.add_zero] at o0 v0
      have hfa : fa sg S0.1 (TT S t0 c0) but (j + 1) = (decide (nI j = but) || (decide (sg j 0 = 2) || ftb (sg j) S0.1 (TT S t0 c0 (sg j 1).toInt))) := by
        show (fa sg S0.1 (TT S t0 c0) but j && _) = _
        rw [h2]; rfl
      have go : fa sg S0.1 (TT S t0 c0) but (j + 1) = true → fX7_fitsAll_L5 m (nI k) but 1 (nI j) Z M = some (.inl (1, nI (j + 1))) → q_it (fun x : Int32 × Int32 => fX7_fitsAll_L5 m (nI k) but x.1 x.2 Z M) (f + 1) (1, nI j) = some (bi (fa sg S0.1 (TT S t0 c0) but n = true)) := by
        intro e1 e2
        rw [q_it_s (y := (1, nI (j + 1))) e2]
        exact ih (j + 1) f (by omega) e1 (by omega)
      by_cases q1 : nI j = but
      · refine go (by rw [hfa]; simp [q1]) ?_
        unfold fX7_fitsAll_L5 fX7_fitsAll_b79
        rw [q_gdk hz.1, if_neg hcmp, if_neg (by decide), if_pos q1]
        simp only [q_nm]
        rw [nI_1]
      · by_cases q2 : sg j 0 = 2
        · refine go (by rw [hfa]; simp [q2]) ?_
          unfold fX7_fitsAll_L5 fX7_fitsAll_b79
          rw [q_gdk hz.1, if_neg hcmp, if_neg (by decide), if_neg q1, hz.a (f := 7) (k := 6) (by decide) rfl, q_bis, q_gdc o0, v0, if_pos q2]
          simp only [q_nm]
          rw [nI_1]
        · have n1 : fX7_now m (0 : Int32) (sg j 1) (0 : Int32) Z M = some (tpx S0.1 (sg j 1)) := e_now (w := 0) (ax := 0) hz (by decide) (by decide) hS.1 _
          have n2 : fX7_now m (0 : Int32) (sg j 1) (1 : Int32) Z M = some (tpy S0.1 (sg j 1)) := e_now (w := 0) (ax := 1) hz (by decide) (by decide) hS.1 _
          have hft := e_fitsAt (E := S0.1) hz hk hT hg hj (ho j hj) rfl rfl
          have body : fX7_fitsAll_L5 m (nI k) but 1 (nI j) Z M = some (.inl (bi (ftb (sg j) S0.1 (TT S t0 c0 (sg j 1).toInt) = true), nI (j + 1))) := by
            unfold fX7_fitsAll_L5 fX7_fitsAll_b79
            rw [q_gdk hz.1, if_neg hcmp, if_neg (by decide), if_neg q1, hz.a (f := 7) (k := 6) (by decide) rfl, q_bis, q_gdc o0, v0, if_neg q2, q_bis, q_gdc o1, v1]
            simp only [q_nm]
            rw [n1, q_bis, n2, q_bis, hft, q_bis, nI_1]
          cases hb : ftb (sg j) S0.1 (TT S t0 c0 (sg j 1).toInt) with
          | true =>
            rw [hb] at body
            exact go (by rw [hfa, hb]; simp) (by rw [body, bi_t rfl])
          | false =>
            rw [hb, bi_f (by decide)] at body
            have hfn : fa sg S0.1 (TT S t0 c0) but n = false := by
              have := fa_no (j := j + 1) (show fa sg S0.1 (TT S t0 c0) but (j + 1) = false by rw [hfa, hb]; simp [q1, q2]) d
              rw [show j + 1 + d = n by omega] at this
              exact this
            obtain ⟨f, rfl⟩ : ∃ y, f = y + 1 := ⟨f - 1, by omega⟩
            rw [q_it_s (y := (0, nI (j + 1))) body]
            refine q_it_x ?_
            show fX7_fitsAll_L5 m (nI k) but 0 (nI (j + 1)) Z M = _
            unfold fX7_fitsAll_L5
            rw [q_gdk hz.1, hfn, bi_f (by decide)]
            by_cases hy : gI M m 6 ≤ nI (j + 1)
            · rw [if_pos hy]
            · rw [if_neg hy, if_pos rfl]
  unfold fX7_fitsAll fX7_fitsAll_b85
  have := loop n 0 q_FU (by omega) rfl (by unfold q_FU; omega)
  rw [nI_0] at this
  rw [this, q_bis]
  simp only [q_nm]
  exact bi_gd _
