/-! at, way -/
def at4 (o : Option q_cs) (b : Int32) : Int32 := match o with
  | none => -1000000
  | some c => if b = 0 then c.1.toInt32 else if b = 1 then c.2.1.toInt32 else if b = 2 then c.2.2.1.toInt32 else if b = 3 then c.2.2.2.toInt32 else -1000000
theorem e_mX {Z : q_Z} {M : q_C} {m k : Nat} {W : q_W} (hB : MW Z M m W) (hW : okW W) (hk : k < W.K.length) {t : Int} (h1 : -300 ≤ t) (h2 : t ≤ 300) {c : q_cs} (hc : pth W k t = some c) :
    (gR M m 17 = some (m + 10) ∧ q_ok Z (m + 10) 2 (nI (ix k t)) = true ∧ gJ M (m + 10) (nI (ix k t)).toNatClampNeg = c.1) ∧ (gR M m 18 = some (m + 11) ∧ q_ok Z (m + 11) 2 (nI (ix k t)) = true ∧ gJ M (m + 11) (nI (ix k t)).toNatClampNeg = c.2.1) ∧ (gR M m 19 = some (m + 12) ∧ q_ok Z (m + 12) 2 (nI (ix k t)) = true ∧ gJ M (m + 12) (nI (ix k t)).toNatClampNeg = c.2.2.1) ∧ (gR M m 20 = some (m + 13) ∧ q_ok Z (m + 13) 2 (nI (ix k t)) = true ∧ gJ M (m + 13) (nI (ix k t)).toNatClampNeg = c.2.2.2) := by
  have hl := hW.kl
  have hz := hB.1.1
  obtain ⟨s1, s2, s3, s4⟩ := e_mSt hB hW hk h1 h2 hc
  have o : ∀ j, 9 ≤ j → j < 13 → _ := fun j q1 q2 => okX (k := k) (t := t) (j := j) hz (by omega) h1 h2 q1 q2
  refine ⟨⟨hz.a (f := 17) (k := 9) (by decide) rfl, (o 9 (by decide) (by decide)).1, ?_⟩, ⟨hz.a (f := 18) (k := 10) (by decide) rfl, (o 10 (by decide) (by decide)).1, ?_⟩, ⟨hz.a (f := 19) (k := 11) (by decide) rfl, (o 11 (by decide) (by decide)).1, ?_⟩, ⟨hz.a (f := 20) (k := 12) (by decide) rfl, (o 12 (by decide) (by decide)).1, ?_⟩⟩
  · rw [(o 9 (by decide) (by decide)).2]; exact s1
  · rw [(o 9 (by decide) (by decide)).2]; exact s2
  · rw [(o 9 (by decide) (by decide)).2]; exact s3
  · rw [(o 9 (by decide) (by decide)).2]; exact s4
theorem e_atM {Z : q_Z} {M : q_C} {m k : Nat} {W : q_W} (hB : MW Z M m W) (hW : okW W) (hk : k < W.K.length) {t : Int} (h1 : -300 ≤ t) (h2 : t ≤ 300) (b : Int32) : fX7_at m (nI k) (sp t) b Z M = some (at4 (pth W k t) b) := by
  unfold fX7_at fX7_at_b24
  rw [q_gdk hB.1.1.1, e_isWay hB.1, q_bis, bi_if, if_pos (hW.kno hk), e_isStep7, q_bis, bi_if, if_pos (by rw [st_i, sp_T (by omega) (by omega)]; omega), e_mTh hB hW hk h1 h2, q_bis, bi_if]
  cases hc : pth W k t with
  | none => rw [if_neg (by decide)]; rfl
  | some c =>
    obtain ⟨x1, x2, x3, x4⟩ := e_mX hB hW hk h1 h2 hc
    rw [if_pos (show (some c).isSome = true from rfl)]
    simp only [q_nm]
    rw [i_ix h1 h2, x1.1, q_bis, q_gdc x1.2.1, x1.2.2, x2.1, q_bis, q_gdc x2.2.1, x2.2.2, x3.1, q_bis, q_gdc x3.2.1, x3.2.2, x4.1, q_bis, q_gdc x4.2.1, x4.2.2]
    unfold at4
    dsimp only
    by_cases q0 : b = 0
    · rw [if_pos q0, if_pos q0]
    rw [if_neg q0, if_neg q0]
    by_cases q1 : b = 1
    · rw [if_pos q1, if_pos q1]
    rw [if_neg q1, if_neg q1]
    by_cases q2 : b = 2
    · rw [if_pos q2, if_pos q2]
    rw [if_neg q2, if_neg q2]
    by_cases q3 : b = 3
    · rw [if_pos q3, if_pos q3]
    rw [if_neg q3, if_neg q3]
theorem e_atC5 {Z : q_Z} {M : q_C} {z w k : Nat} {W : q_W} (hr : rdW Z M w k W) {t : Int} (h1 : -300 ≤ t) (h2 : t ≤ 300) (b : Int32) : fX6_at_b5 z (sp t) b (some w) Z M = some (at4 (pth W k t) b, Z, M) := by
  obtain ⟨r1, r2, r3⟩ := hr
  have eT : (sp t).toInt = t := sp_T (by omega) (by omega)
  unfold fX6_at_b5 fX6_at_b21
  rw [q_ons, q_gdk r1, r2, q_bis, bi_if, eT]
  cases hc : pth W k t with
  | none => rw [if_neg (fun q => by cases q.2)]; rfl
  | some c =>
    obtain ⟨x1, x2, x3, x4⟩ := r3 t c h1 h2 hc
    rw [if_pos ⟨⟨h1, h2⟩, rfl⟩, x1, x2, sp_1, x3, x4, q_bis, q_bis, q_bis, q_bis, q_bis, q_bis]
    unfold at4
    dsimp only
    by_cases q0 : b = 0
    · rw [if_pos q0, if_pos q0]
    rw [if_neg q0, if_neg q0]
    by_cases q1 : b = 1
    · rw [if_pos q1, if_pos q1]
    rw [if_neg q1, if_neg q1]
    by_cases q2 : b = 2
    · rw [if_pos q2, if_pos q2, Int64.toInt32_add, Int32.add_comm, Int32.add_sub_cancel]
    rw [if_neg q2, if_neg q2]
    by_cases q3 : b = 3
    · rw [if_pos q3, if_pos q3, Int64.toInt32_add, Int32.add_comm, Int32.add_sub_cancel]
    rw [if_neg q3, if_neg q3]
theorem j_at {Z : q_Z} {M : q_C} {z : Nat} {W : q_W} (h : JW Z M z W) (v t b : Int32) : ∃ (r : Int32) (Z' : q_Z) (M' : q_C), fX6_at z v t b Z M = some (r, Z', M') ∧ fX7_at (z + 35) v t b Z' M' = some r ∧ JW Z' M' z W := by
  obtain ⟨hB, hM, hW⟩ := id h
  rcases hW.kin v with hv | ⟨k, hk, rfl⟩
  · refine ⟨-1000000, Z, M, ?_, ?_, h⟩
    · unfold fX6_at fX6_at_b5 fX6_at_b21
      rw [q_gdk hB.1.1.1, e_tracedW0 hB hv, q_b3s, q_onn]
    · unfold fX7_at fX7_at_b24
      rw [q_gdk hM.1.1.1, e_isWay hM.1, q_bis, bi_if, if_neg (fun q => q hv)]
  · obtain ⟨w, Z', M', a1, a2, a3, a4, a5, a6⟩ := e_tracedW hB hW hk
    have hJ := h.tr a3 a4 a5
    obtain ⟨w', b1, b2⟩ := a6.rd a4 hW hk
    rw [a2] at b1
    cases b1
    by_cases ht : -300 ≤ t.toInt ∧ t.toInt ≤ 300
    · refine ⟨at4 (pth W k t.toInt) b, Z', M', ?_, ?_, hJ⟩
      · unfold fX6_at
        rw [q_gdk hB.1.1.1, a1, q_b3s]
        have := e_atC5 (z := z) b2 ht.1 ht.2 b
        rw [← sp_of] at this
        exact this
      · have := e_atM hJ.2.1 hW hk ht.1 ht.2 b
        rw [← sp_of] at this
        exact this
    · refine ⟨-1000000, Z', M', ?_, ?_, hJ⟩
      · unfold fX6_at fX6_at_b5 fX6_at_b21
        rw [q_gdk hB.1.1.1, a1, q_b3s, q_ons, q_gdk b2.1, b2.2.1, q_bis, bi_if, if_neg (fun q => ht q.1)]
      · unfold fX7_at fX7_at_b24
        rw [q_gdk hJ.2.1.1.1.1, e_isWay hJ.2.1.1, q_bis, bi_if, if_pos (hW.kno hk), e_isStep7, q_bis, bi_if, if_neg (fun q => ht (st_i.mp q))]
theorem j_way {Z : q_Z} {M : q_C} {z : Nat} {W : q_W} (h : JW Z M z W) (v b : Int32) : ∃ (r : Int32), fX6_way z v b Z M = some r ∧ fX7_way (z + 35) v b Z M = some r := by
  obtain ⟨hB, hM, hW⟩ := id h
  have hl := hW.kl
  rcases hW.kin v with hv | ⟨k, hk, rfl⟩
  · refine ⟨-1000000, ?_, ?_⟩
    · unfold fX6_way
      rw [q_gdk hB.1.1.1, e_kw0 hB.1 hv, q_bis, q_onn]
    · unfold fX7_way
      rw [q_gdk hM.1.1.1, e_isWay hM.1, q_bis, bi_if, if_neg (fun q => q hv)]
  · have he := List.getElem?_eq_getElem hk
    generalize W.K[k] = e at he
    obtain ⟨w, x, y, u, v, k1, k2, k3, k4⟩ := hB.2.2 k e he
    obtain ⟨a1, a2, a3⟩ := hB.2.1.1 k w (by omega) k1
    obtain ⟨c0, c1, c2, c3, c4, c5, c6⟩ := k3
    have ht := hW.2.2.2.2.2.2.1
    have hnl := (hW.2.2.2.2.2.2.2 e (List.mem_of_getElem? he)).2.2
    have hp : pth W k W.t0 = some e.2.2 := by rw [pth_k he, TT_0, if_neg hnl]
    obtain ⟨x1, x2, x3, x4⟩ := e_mX hM hW hk ht.1 ht.2 hp
    obtain ⟨n1, n2, n3⟩ := hM.2 k e he
    obtain ⟨o1, o2⟩ := okKn (k := k) (j := 0) hM.1.1 (by omega) (by decide)
    obtain ⟨o3, o4⟩ := okKn (k := k) (j := 1) hM.1.1 (by omega) (by decide)
    rw [nI_0, Int32.add_zero] at o1 o2
    rw [show nI 1 = (1 : Int32) from rfl] at o3 o4
    rw [k2] at x1 x2 x3 x4
    have n1' : gI M (z + 35 + 1 + 7) (2 * k + 0) = nI e.1 := n1
    have n2' : gI M (z + 35 + 1 + 7) (2 * k + 1) = nI e.2.1 := n2
    refine ⟨if b = 0 then nI e.1 else if b = 1 then nI e.2.1 else if b = 2 then x else if b = 3 then y else if b = 4 then u else if b = 5 then v else if b = 6 then sp W.t0 else -1000000, ?_, ?_⟩
    · unfold fX6_way
      rw [q_gdk hB.1.1.1, e_kw hB.1 hW hk, q_bis, k1, q_ons, q_gdk a2, q_gdk a2, q_gdk a2, q_gdk a2, q_gdk a2, q_gdk a2, q_gdk a2, c0, c1, c2, c3, c4, c5, c6]
      by_cases q0 : b = 0
      · rw [if_pos q0, if_pos q0]
      rw [if_neg q0, if_neg q0]
      by_cases q1 : b = 1
      · rw [if_pos q1, if_pos q1]
      rw [if_neg q1, if_neg q1]
      by_cases q2 : b = 2
      · rw [if_pos q2, if_pos q2]
      rw [if_neg q2, if_neg q2]
      by_cases q3 : b = 3
      · rw [if_pos q3, if_pos q3]
      rw [if_neg q3, if_neg q3]
      by_cases q4 : b = 4
      · rw [if_pos q4, if_pos q4]
      rw [if_neg q4, if_neg q4]
      by_cases q5 : b = 5
      · rw [if_pos q5, if_pos q5]
      rw [if_neg q5, if_neg q5]
      by_cases q6 : b = 6
      · rw [if_pos q6, if_pos q6]
      rw [if_neg q6, if_neg q6]
    · unfold fX7_way
      rw [q_gdk hM.1.1.1, e_isWay hM.1, q_bis, bi_if, if_pos (hW.kno hk), hM.1.2.2.2.2.2.2.2.1]
      simp only [q_nm]
      rw [i_ix ht.1 ht.2, x1.1, q_bis, q_gdc x1.2.1, x1.2.2, x2.1, q_bis, q_gdc x2.2.1, x2.2.2, x3.1, q_bis, q_gdc x3.2.1, x3.2.2, x4.1, q_bis, q_gdc x4.2.1, x4.2.2, hM.1.1.a (f := 15) (k := 7) (by decide) rfl, q_bis, q_bis, q_gdc o1, q_gdc o3, o2, o4, n1', n2']
      simp only [Int32.toInt32_toInt64]
      by_cases q0 : b = 0
      · rw [if_pos q0, if_pos q0]
      rw [if_neg q0, if_neg q0]
      by_cases q1 : b = 1
      · rw [if_pos q1, if_pos q1]
      rw [if_neg q1, if_neg q1]
      by_cases q2 : b = 2
      · rw [if_pos q2, if_pos q2]
      rw [if_neg q2, if_neg q2]
      by_cases q3 : b = 3
      · rw [if_pos q3, if_pos q3]
      rw [if_neg q3, if_neg q3]
      by_cases q4 : b = 4
      · rw [if_pos q4, if_pos q4]
      rw [if_neg q4, if_neg q4]
      by_cases q5 : b = 5
      · rw [if_pos q5, if_pos q5]
      rw [if_neg q5, if_neg q5]
      by_cases q6 : b = 6
      · rw [if_pos q6, if_pos q6]
      rw [if_neg q6, if_neg q6]
