/-! patch, side, tells: both -/
def wdC (W : q_W) (t : Int) : Int32 := if (LL W t).length = 0 then -1 else wdt (LL W t)
theorem j_patch {Z : q_Z} {M : q_C} {z : Nat} {W : q_W} (h : JW Z M z W) (v : Int32) : ∃ (r : Int32) (Z' : q_Z) (M' : q_C), fX6_patch z v Z M = some (r, Z', M') ∧ fX7_patch (z + 35) v Z' M' = some r ∧ JW Z' M' z W := by
  obtain ⟨hB, hM, hW⟩ := id h
  by_cases hs : (-300 : Int32) ≤ v ∧ v ≤ 300
  · have ht := st_i.mp hs
    obtain ⟨Z1, M1, a1, a2, a3, a4, a5⟩ := e_traceAll hB hW
    have hJ1 := h.tr a2 a3 a4
    obtain ⟨M2, b1, b2⟩ := e_widthAt ht.1 ht.2 hJ1 a5
    have hJ2 := hJ1.pm b2
    have c1 := e_isSo hJ2.2.1 hW ht.1 ht.2
    have c2 := e_widthOf hJ2.2.1 hW ht.1 ht.2
    rw [← sp_of] at b1 c1 c2
    refine ⟨wdC W v.toInt, Z1, M2, ?_, ?_, hJ2⟩
    · unfold fX6_patch fX6_patch_b13
      rw [e_isStep, q_bis, bi_if, if_pos hs, q_gdk hB.1.1.1, a1, q_b2s, q_gdk a3.1.1.1, b1, q_b2s]
      rfl
    · unfold fX7_patch fX7_patch_b15 fX7_patch_b24
      rw [e_isStep7, q_bis, bi_if, if_pos hs, q_gdk hJ2.2.1.1.1.1, c1, q_bis, bi_if, c2, q_bis]
      unfold wdC
      by_cases q : (LL W v.toInt).length = 0
      · rw [if_neg (fun e => e q), if_pos q]
      · rw [if_pos q, if_neg q]
  · refine ⟨-1, Z, M, ?_, ?_, h⟩
    · unfold fX6_patch
      rw [e_isStep, q_bis, bi_if, if_neg hs]
    · unfold fX7_patch fX7_patch_b15 fX7_patch_b24
      rw [e_isStep7, q_bis, bi_if, if_neg hs]
theorem j_side {Z : q_Z} {M : q_C} {z : Nat} {W : q_W} (h : JW Z M z W) (v b : Int32) : ∃ (r : Int32) (Z' : q_Z) (M' : q_C), fX6_side z v b Z M = some (r, Z', M') ∧ fX7_side (z + 35) v b Z' M' = some r ∧ JW Z' M' z W := by
  obtain ⟨hB, hM, hW⟩ := id h
  have hl := hW.kl
  by_cases hs : (-300 : Int32) ≤ v ∧ v ≤ 300
  · have ht := st_i.mp hs
    obtain ⟨Z1, M1, a1, a2, a3, a4, a5⟩ := e_traceAll hB hW
    have hJ1 := h.tr a2 a3 a4
    obtain ⟨M2, b1, b2, b3⟩ := e_look ht.1 ht.2 hJ1 a5
    have hJ2 := hJ1.pm b2
    have c1 := e_isSo hJ2.2.1 hW ht.1 ht.2
    have c2 := e_sideOf hJ2.2.1 hW ht.1 ht.2 b
    rw [← sp_of] at b1 c1 c2
    have hz := hJ2.1.1.1
    refine ⟨eR (edg (LL W v.toInt) (!decide (b = 0))), Z1, M2, ?_, ?_, hJ2⟩
    · unfold fX6_side fX6_side_b13
      rw [e_isStep, q_bis, bi_if, if_pos hs, q_gdk hB.1.1.1, a1, q_b2s, q_gdk a3.1.1.1, b1, q_bis, hz.2.1.2.2.2.2.2.2, q_bis, q_bis, q_gdk hz.p.1]
      rcases e_edge b hz.p b3 (lks_b hW _ _) with ⟨p1, p2⟩ | ⟨i, a, p1, p2, p3⟩
      · rw [p1, q_bis, q_gdk hz.p.1, p2]
        unfold fX1_wayOf fX1_wayOf_b18
        rw [q_gdk hz.p.1, e_held0, q_bis, if_pos rfl, q_bis]
        rfl
      · have hi : i < (LL W v.toInt).length := (List.getElem?_eq_some_iff.mp p2).1
        have hl2 := b3.2.1
        rw [p1, q_bis, q_gdk hz.p.1, p3]
        unfold fX1_wayOf fX1_wayOf_b18
        rw [q_gdk hz.p.1, e_held hz.p b3 hi, q_bis, if_neg (by decide), hz.p.2.1.1, q_bis, q_gdc (q_okT hz.p.2.2.1.1 rfl (by omega) (by rw [hz.p.2.2.1.2]; omega)), nI_clamp (by omega), (b3.2.2 i a p2).1, q_bis]
        rfl
    · unfold fX7_side fX7_side_b15 fX7_side_b25
      rw [e_isStep7, q_bis, bi_if, if_pos hs, q_gdk hJ2.2.1.1.1.1, c1, q_bis, bi_if, c2, q_bis]
      by_cases q : (LL W v.toInt).length = 0
      · rw [if_neg (fun e => e q), List.eq_nil_of_length_eq_zero q]
        rfl
      · rw [if_pos q]
  · refine ⟨-1, Z, M, ?_, ?_, h⟩
    · unfold fX6_side
      rw [e_isStep, q_bis, bi_if, if_neg hs]
    · unfold fX7_side fX7_side_b15 fX7_side_b25
      rw [e_isStep7, q_bis, bi_if, if_neg hs]
/-- how wide a step counts -/
def cwd (W : q_W) (t : Int) : Int64 := if (wdC W t).toInt64 = -2 then 2147483648 else (wdC W t).toInt64
def tlS (W : q_W) : Nat → Int → Int32 → Int64 → Int32
  | 0, _, b, _ => b
  | d + 1, t, b, c => if cwd W t ≤ c then tlS W d (t + 1) b c else tlS W d (t + 1) (sp t) (cwd W t)
theorem e_tlC {Z : q_Z} {M0 : q_C} {z : Nat} {W : q_W} {t2 : Int} (h2 : t2 ≤ 300) (hJ0 : JW Z M0 z W) (hd0 : ∀ k, k < W.K.length → trd M0 z k) : ∀ (d : Nat) (t : Int) (f : Nat) (M : q_C) (b : Int32) (c : Int64), t + d = t2 + 1 → -300 ≤ t → d + 1 < f → pmv z M0 M →
    ∃ M', q_it (fun x : Int32 × Int64 × Int32 × q_C => fX6_tells_L34 z (sp t2) x.1 x.2.1 x.2.2.1 Z x.2.2.2) f (b, c, sp t, M) = some (tlS W d t b c, M') ∧ pmv z M0 M' := by
  intro d
  induction d with
  | zero =>
    intro t f M b c h3 h4 h5 h6
    obtain ⟨f, rfl⟩ : ∃ y, f = y + 1 := ⟨f - 1, by omega⟩
    refine ⟨M, q_it_x ?_, h6⟩
    show fX6_tells_L34 z (sp t2) b c (sp t) Z M = _
    unfold fX6_tells_L34
    rw [if_pos (by rw [Int32.lt_iff_toInt_lt, sp_T (by omega) (by omega), sp_T (by omega) (by omega)]; omega)]
    rfl
  | succ d ih =>
    intro t f M b c h3 h4 h5 h6
    obtain ⟨f, rfl⟩ : ∃ y, f = y + 1 := ⟨f - 1, by omega⟩
    have hJ := hJ0.pm h6
    have hl := hJ0.2.2.kl
    obtain ⟨M1, a1, a2⟩ := e_widthAt (t := t) h4 (by omega) hJ (fun k hk => (hd0 k hk).pm hJ0.1.2.1 (by omega) h6)
    have h7 := h6.tr a2
    have pre : fX6_tells_L34 z (sp t2) b c (sp t) Z M = if cwd W t ≤ c then some (.inl (b, c, sp (t + 1), M1)) else some (.inl (sp t, cwd W t, sp (t + 1), M1)) := by
      unfold fX6_tells_L34 fX6_tells_b63 fX6_tells_b78
      rw [if_neg (by rw [Int32.lt_iff_toInt_lt, sp_T (by omega) (by omega), sp_T (by omega) (by omega)]; omega), q_gdk hJ.1.1.1.1, a1, q_b2s]
      simp only [q_nm]
      rw [show (if (LL W t).length = 0 then (-1 : Int32) else wdt (LL W t)) = wdC W t from rfl, sp_1]
      unfold cwd
      by_cases q : (wdC W t).toInt64 = -2
      · rw [if_pos q, if_pos q]
      · rw [if_neg q, if_neg q]
    unfold tlS
    by_cases q : cwd W t ≤ c
    · rw [if_pos q] at pre
      rw [if_pos q, q_it_s (y := (b, c, sp (t + 1), M1)) pre]
      exact ih (t + 1) f M1 b c (by omega) (by omega) (by omega) h7
    · rw [if_neg q] at pre
      rw [if_neg q, q_it_s (y := (sp t, cwd W t, sp (t + 1), M1)) pre]
      exact ih (t + 1) f M1 (sp t) (cwd W t) (by omega) (by omega) (by omega) h7
def gwd (c : Int64) : Int64 := if c = 2147483648 then 1099511627776 else c
theorem cwd_b (W : q_W) (t : Int) : (cwd W t).toInt ≤ 2147483648 := by
  unfold cwd
  split
  · decide
  · rw [l_64]
    have := Int32.toInt_lt (wdC W t)
    omega
theorem gwd_le {x c : Int64} (h1 : x.toInt ≤ 2147483648) (h2 : c.toInt ≤ 2147483648) : gwd c < gwd x ↔ ¬ x ≤ c := by
  have e1 : (2147483648 : Int64).toInt = 2147483648 := by decide
  have e2 : (1099511627776 : Int64).toInt = 1099511627776 := by decide
  have hx : x = 2147483648 ↔ x.toInt = 2147483648 := ⟨fun q => by rw [q, e1], fun q => l_eq (by rw [q, e1])⟩
  have hc : c = 2147483648 ↔ c.toInt = 2147483648 := ⟨fun q => by rw [q, e1], fun q => l_eq (by rw [q, e1])⟩
  unfold gwd
  rw [Int64.le_iff_toInt_le, Int64.lt_iff_toInt_lt]
  by_cases q1 : x = 2147483648
  · have := hx.mp q1
    rw [if_pos q1]
    by_cases q2 : c = 2147483648
    · have := hc.mp q2
      rw [if_pos q2]
      omega
    · have : ¬ c.toInt = 2147483648 := fun e => q2 (hc.mpr e)
      rw [if_neg q2, e2]
      omega
  · have : ¬ x.toInt = 2147483648 := fun e => q1 (hx.mpr e)
    rw [if_neg q1]
    by_cases q2 : c = 2147483648
    · have := hc.mp q2
      rw [if_pos q2, e2]
      omega
    · rw [if_neg q2]
      omega
theorem e_tlM {Z : q_Z} {M : q_C} {m : Nat} {W : q_W} (hB : MW Z M m W) (hW : okW W) {t2 : Int} (h2 : t2 ≤ 300) : ∀ (d : Nat) (t : Int) (f : Nat) (b : Int32) (c : Int64), t + d = t2 + 1 → -300 ≤ t → d + 1 < f → -1 ≤ c.toInt ∧ c.toInt ≤ 2147483648 →
    q_it (fun x : Int32 × Int64 × Int32 => fX7_tells_L35 m (sp t2) x.1 x.2.1 x.2.2 Z M) f (b, gwd c, sp t) = some (tlS W d t b c) := by
  intro d
  induction d with
  | zero =>
    intro t f b c h3 h4 h5 h6
    obtain ⟨f, rfl⟩ : ∃ y, f = y + 1 := ⟨f - 1, by omega⟩
    refine q_it_x ?_
    show fX7_tells_L35 m (sp t2) b (gwd c) (sp t) Z M = _
    unfold fX7_tells_L35
    rw [if_pos (by rw [Int32.lt_iff_toInt_lt, sp_T (by omega) (by omega), sp_T (by omega) (by omega)]; omega)]
    rfl
  | succ d ih =>
    intro t f b c h3 h4 h5 h6
    obtain ⟨f, rfl⟩ : ∃ y, f = y + 1 := ⟨f - 1, by omega⟩
    have c1 := e_isSo hB hW (t := t) h4 (by omega)
    have c2 := e_widthOf hB hW (t := t) h4 (by omega)
    have hcb := cwd_b W t
    have pre : fX7_tells_L35 m (sp t2) b (gwd c) (sp t) Z M = if cwd W t ≤ c then some (.inl (b, gwd c, sp (t + 1))) else some (.inl (sp t, gwd (cwd W t), sp (t + 1))) := by
      unfold fX7_tells_L35 fX7_tells_b77 fX7_tells_b97
      rw [if_neg (by rw [Int32.lt_iff_toInt_lt, sp_T (by omega) (by omega), sp_T (by omega) (by omega)]; omega), q_gdk hB.1.1.1, c1, q_bis, bi_if, c2, q_bis]
      simp only [q_nm]
      rw [sp_1]
      by_cases q : (LL W t).length = 0
      · have e : cwd W t = -1 := by
          unfold cwd wdC
          rw [if_pos q]
          rfl
        have hle : cwd W t ≤ c := by
          rw [e, Int64.le_iff_toInt_le, show (-1 : Int64).toInt = -1 from by decide]
          exact h6.1
        rw [if_neg (fun e => e q), if_pos hle]
      · rw [if_pos q]
        have ew : wdC W t = wdt (LL W t) := by unfold wdC; rw [if_neg q]
        have hg : gwd (cwd W t) = if wdt (LL W t) = -2 then 1099511627776 else (wdt (LL W t)).toInt64 := by
          unfold cwd
          rw [ew]
          by_cases q2 : wdt (LL W t) = -2
          · rw [if_pos q2, q2]
            rfl
          · have q3 : ¬ (wdt (LL W t)).toInt64 = -2 := fun e => q2 (by
              have : (wdt (LL W t)).toInt64.toInt = (-2 : Int64).toInt := by rw [e]
              rw [l_64] at this
              exact i_eq (by rw [this]; decide))
            have q4 : ¬ (wdt (LL W t)).toInt64 = 2147483648 := fun e => by
              have : (wdt (LL W t)).toInt64.toInt = (2147483648 : Int64).toInt := by rw [e]
              rw [l_64, show (2147483648 : Int64).toInt = 2147483648 from by decide] at this
              have := Int32.toInt_lt (wdt (LL W t))
              omega
            rw [if_neg q2, if_neg q3]
            unfold gwd
            rw [if_neg q4]
        have hle := gwd_le (x := cwd W t) (c := c) hcb h6.2
        have e2 : ∀ (A B : Option ((Int32 × Int64 × Int32) ⊕ Int32)), (if gwd c < gwd (cwd W t) then A else B) = if cwd W t ≤ c then B else A := fun A B => by
          by_cases q5 : cwd W t ≤ c
          · rw [if_pos q5, if_neg (fun e => hle.mp e q5)]
          · rw [if_neg q5, if_pos (hle.mpr q5)]
        by_cases q2 : wdt (LL W t) = -2
        · rw [if_pos q2] at hg
          rw [if_pos q2, ← hg, e2]
        · rw [if_neg q2] at hg
          rw [if_neg q2, ← hg, e2]
    unfold tlS
    by_cases q : cwd W t ≤ c
    · rw [if_pos q] at pre
      rw [if_pos q, q_it_s (y := (b, gwd c, sp (t + 1))) pre]
      exact ih (t + 1) f b c (by omega) (by omega) (by omega) h6
    · rw [if_neg q] at pre
      rw [if_neg q, q_it_s (y := (sp t, gwd (cwd W t), sp (t + 1))) pre]
      rw [Int64.le_iff_toInt_le] at q
      exact ih (t + 1) f (sp t) (cwd W t) (by omega) (by omega) (by omega) ⟨by omega, hcb⟩
theorem j_tells {Z : q_Z} {M : q_C} {z : Nat} {W : q_W} (h : JW Z M z W) (v1 v2 : Int32) : ∃ (r : Int32) (Z' : q_Z) (M' : q_C), fX6_tells z v1 v2 Z M = some (r, Z', M') ∧ fX7_tells (z + 35) v1 v2 Z' M' = some r ∧ JW Z' M' z W := by
  obtain ⟨hB, hM, hW⟩ := id h
  by_cases hs1 : (-300 : Int32) ≤ v1 ∧ v1 ≤ 300
  · by_cases hs2 : (-300 : Int32) ≤ v2 ∧ v2 ≤ 300
    · have ht1 := st_i.mp hs1
      have ht2 := st_i.mp hs2
      obtain ⟨Z1, M1, a1, a2, a3, a4, a5⟩ := e_traceAll hB hW
      have hJ1 := h.tr a2 a3 a4
      by_cases hle : v1.toInt ≤ v2.toInt
      · obtain ⟨M2, b1, b2⟩ := e_tlC ht2.2 hJ1 a5 (v2.toInt - v1.toInt + 1).toNat v1.toInt q_FU M1 (-1000) (-1) (by omega) ht1.1 (by unfold q_FU; omega) pmv.rf
        have hJ2 := hJ1.pm b2
        have c1 := e_tlM hJ2.2.1 hW ht2.2 (v2.toInt - v1.toInt + 1).toNat v1.toInt q_FU (-1000) (-1) (by omega) ht1.1 (by unfold q_FU; omega) (by decide)
        rw [show gwd (-1) = -1 from rfl] at c1
        rw [← sp_of, ← sp_of] at b1 c1
        refine ⟨tlS W (v2.toInt - v1.toInt + 1).toNat v1.toInt (-1000) (-1), Z1, M2, ?_, ?_, hJ2⟩
        · unfold fX6_tells fX6_tells_b22
          rw [e_isStep, q_bis, bi_if, if_pos hs1, e_isStep, q_bis, bi_if, if_pos hs2, q_gdk hB.1.1.1, a1, q_b2s, b1, q_bis]
          rfl
        · unfold fX7_tells
          rw [e_isStep7, q_bis, bi_if, if_pos hs1, e_isStep7, q_bis, bi_if, if_pos hs2, if_pos (by rw [Int32.le_iff_toInt_le]; exact hle), c1, q_bis]
          rfl
      · refine ⟨-1000, Z1, M1, ?_, ?_, hJ1⟩
        · unfold fX6_tells fX6_tells_b22
          have st : q_it (fun x : Int32 × Int64 × Int32 × q_C => fX6_tells_L34 z v2 x.1 x.2.1 x.2.2.1 Z1 x.2.2.2) q_FU (-1000, -1, v1, M1) = some (-1000, M1) := by
            refine q_it_x (n := 99999) ?_
            show fX6_tells_L34 z v2 (-1000) (-1) v1 Z1 M1 = _
            unfold fX6_tells_L34
            rw [if_pos (by rw [Int32.lt_iff_toInt_lt]; omega)]
          rw [e_isStep, q_bis, bi_if, if_pos hs1, e_isStep, q_bis, bi_if, if_pos hs2, q_gdk hB.1.1.1, a1, q_b2s, st, q_bis]
          rfl
        · unfold fX7_tells fX7_tells_b19
          rw [e_isStep7, q_bis, bi_if, if_pos hs1, e_isStep7, q_bis, bi_if, if_pos hs2, if_neg (by rw [Int32.le_iff_toInt_le]; exact hle)]
    · refine ⟨-1000, Z, M, ?_, ?_, h⟩
      · unfold fX6_tells fX6_tells_b14
        rw [e_isStep, q_bis, bi_if, if_pos hs1, e_isStep, q_bis, bi_if, if_neg hs2]
      · unfold fX7_tells fX7_tells_b19
        rw [e_isStep7, q_bis, bi_if, if_pos hs1, e_isStep7, q_bis, bi_if, if_neg hs2]
  · refine ⟨-1000, Z, M, ?_, ?_, h⟩
    · unfold fX6_tells fX6_tells_b14
      rw [e_isStep, q_bis, bi_if, if_neg hs1]
    · unfold fX7_tells fX7_tells_b19
      rw [e_isStep7, q_bis, bi_if, if_neg hs1]
