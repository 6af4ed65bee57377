/-! fits, fitting -/
def ftk (W : q_W) (i k : Nat) : Bool := ftb (W.sg i) W.T.1 (pth W k (W.sg i 1).toInt)
theorem e_isFit {Z : q_Z} {M : q_C} {z w k i : Nat} {W : q_W} (hr : rdW Z M w k W) (hB : BF Z M z W) (hW : okW W) (hi : i < W.n) : fX6_isFitting z (some w) (some (z + 23 + i)) Z M = some (bi (ftk W i k = true)) := by
  obtain ⟨r1, r2, r3⟩ := hr
  obtain ⟨hz, hS, hT, hg, _⟩ := hB
  have h12 := hW.2.1.1
  have hs := (hz.2.2.2.2.2.2.2.2 i (by omega)).2
  have ho := hW.2.1.2 i hi
  have hst := ho.2.1
  unfold fX6_isFitting fX6_isFitting_b43 fX6_isFitting_b44 ftk
  rw [q_bis, q_gdk hs]
  simp only [q_nm]
  rw [hg.2.2 i hi 1 (by decide), q_bis, q_gdk r1, r2, q_bis, bi_if]
  cases hc : pth W k (W.sg i 1).toInt with
  | none =>
    rw [if_neg (fun q => by cases q.2), q_gdc (by decide), bi_f (fun q => by cases q)]
  | some c =>
    obtain ⟨x1, x2, _, _⟩ := r3 _ c hst.1 hst.2 hc
    rw [← sp_of] at x1 x2
    obtain ⟨n1, n2⟩ := nl_x (pth_nl hc)
    rw [if_pos ⟨hst, rfl⟩, q_gdk hz.1, hz.2.1.2.1, q_bis, q_gdk hz.2.2.2.1.1, hz.2.2.2.1.2.1, q_bis, x1, q_bis, x2, q_bis, n1, n2, e_takes hs (fun q hq => hg.2.2 i hi q hq) hz.2.2.2.1.2.2.2.1 hT.1, q_bis, bi_if]
    unfold ftb
    dsimp only
    by_cases q : tkd (W.sg i) (tkp (W.sg i) W.T.1 c.1) (tkq (W.sg i) W.T.1 c.2.1)
    · rw [if_pos q, q_gdc (by decide), bi_t (decide_eq_true q)]
    · rw [if_neg q, q_gdc (by decide), bi_f (fun e => q (of_decide_eq_true e))]
theorem e_fitsTh {Z : q_Z} {M : q_C} {m k i : Nat} {W : q_W} (hB : MW Z M m W) (hW : okW W) (hk : k < W.K.length) (hi : i < W.n) : fX7_fitsThen m (nI k) (nI i) Z M = some (bi (ftk W i k = true)) := by
  have hl := hW.kl
  have he := List.getElem?_eq_getElem hk
  generalize W.K[k] = e at he
  obtain ⟨⟨h1, h2, h3, h4, h5, h6, h7, h8, h9⟩, hK⟩ := hB
  obtain ⟨o1, v1⟩ := M_sg.at (k := 1) h1 h4 hi (by decide)
  rw [show nI 1 = (1 : Int32) from rfl] at o1 v1
  have t0 := e_then (w := 0) (ax := 0) h1 (by decide) (by decide) h3 (W.sg i 1)
  have t1 := e_then (w := 0) (ax := 1) h1 (by decide) (by decide) h3 (W.sg i 1)
  rw [nI_0, if_pos rfl] at t0
  rw [nI_0, show nI 1 = (1 : Int32) from rfl, if_neg (by decide)] at t1
  unfold fX7_fitsThen
  rw [q_gdk h1.1, h1.a (f := 7) (k := 6) (by decide) rfl, q_bis, q_gdc o1, v1, t0, q_bis, q_bis, q_gdc o1, v1, t1, q_bis, e_fitsAt (E := W.T.1) h1 (by omega) (hK k e he).2.2 h4 hi (hW.2.1.2 i hi) rfl rfl, q_bis, bi_gd]
  unfold ftk
  rw [pth_k he]
theorem okW.sin {W : q_W} (hW : okW W) (v : Int32) : (v < 0 ∨ nI W.n ≤ v) ∨ ∃ i, i < W.n ∧ v = nI i := by
  have h12 := hW.2.1.1
  by_cases h0 : v < 0
  · exact Or.inl (Or.inl h0)
  · by_cases h1 : nI W.n ≤ v
    · exact Or.inl (Or.inr h1)
    · right
      rw [Int32.lt_iff_toInt_lt, show (0 : Int32).toInt = 0 from rfl] at h0
      rw [Int32.le_iff_toInt_le, nI_toInt (by omega)] at h1
      exact ⟨v.toInt.toNat, by omega, i_eq (by rw [nI_toInt (by omega)]; omega)⟩
theorem okW.sno {W : q_W} (hW : okW W) {k : Nat} (hk : k < W.n) : ¬ (nI k < 0 ∨ nI W.n ≤ nI k) := by
  have h12 := hW.2.1.1
  rintro (q | q)
  · exact nI_pos (by omega) q
  · exact nI_ge hk (by omega) q
theorem j_fits {Z : q_Z} {M : q_C} {z : Nat} {W : q_W} (h : JW Z M z W) (v s : Int32) : ∃ (r : Int32) (Z' : q_Z) (M' : q_C), fX6_fits z v s Z M = some (r, Z', M') ∧ fX7_fits (z + 35) v s Z' M' = some r ∧ JW Z' M' z W := by
  obtain ⟨hB, hM, hW⟩ := id h
  have h12 := hW.2.1.1
  rcases hW.kin v with hv | ⟨k, hk, rfl⟩
  · have so : ∃ o, fX6_sightOf z s Z M = some o := by
      rcases hW.sin s with hs | ⟨i, hi, rfl⟩
      · exact ⟨_, e_sightOf0 hB.1.1 hB.1.2.2.2.1 hs⟩
      · exact ⟨_, e_sightOf hB.1.1 hB.1.2.2.2.1 hi⟩
    obtain ⟨o, ho⟩ := so
    refine ⟨-1, Z, M, ?_, ?_, h⟩
    · unfold fX6_fits fX6_fits_b5 fX6_fits_b22
      rw [q_gdk hB.1.1.1, e_tracedW0 hB hv, q_b3s, q_gdk hB.1.1.1, ho, q_bis, q_onn]
    · unfold fX7_fits fX7_fits_b16 fX7_fits_b34
      rw [q_gdk hM.1.1.1, e_isWay hM.1, q_bis, bi_if, if_neg (fun q => q hv)]
  · obtain ⟨w, Z', M', a1, a2, a3, a4, a5, a6⟩ := e_tracedW hB hW hk
    have hJ := h.tr a3 a4 a5
    obtain ⟨w', b1, b2⟩ := a6.rd a4 hW hk
    rw [a2] at b1
    cases b1
    rcases hW.sin s with hs | ⟨i, hi, rfl⟩
    · refine ⟨-1, Z', M', ?_, ?_, hJ⟩
      · unfold fX6_fits fX6_fits_b5 fX6_fits_b22
        rw [q_gdk hB.1.1.1, a1, q_b3s, q_gdk a4.1.1.1, e_sightOf0 a4.1.1 a4.1.2.2.2.1 hs, q_bis, q_ons, q_onn]
      · unfold fX7_fits fX7_fits_b16 fX7_fits_b34
        rw [q_gdk hJ.2.1.1.1.1, e_isWay hJ.2.1.1, q_bis, bi_if, if_pos (hW.kno hk), e_isSg hJ.2.1.1.1 hJ.2.1.1.2.2.2.1, q_bis, bi_if, if_neg (fun q => q hs)]
    · refine ⟨bi (ftk W i k = true), Z', M', ?_, ?_, hJ⟩
      · unfold fX6_fits fX6_fits_b5 fX6_fits_b39
        rw [q_gdk hB.1.1.1, a1, q_b3s, q_gdk a4.1.1.1, e_sightOf a4.1.1 a4.1.2.2.2.1 hi, q_bis, q_ons, q_ons, e_isFit b2 a4.1 hW hi, q_bis, bi_if]
        unfold bi
        split <;> rfl
      · unfold fX7_fits fX7_fits_b34
        rw [q_gdk hJ.2.1.1.1.1, e_isWay hJ.2.1.1, q_bis, bi_if, if_pos (hW.kno hk), e_isSg hJ.2.1.1.1 hJ.2.1.1.2.2.2.1, q_bis, bi_if, if_pos (hW.sno hi), e_fitsTh hJ.2.1 hW hk hi, q_bis, bi_if]
        unfold bi
        split <;> rfl
/-- how many, from k on -/
def cS (f : Nat → Bool) : Nat → Nat → Nat
  | _, 0 => 0
  | k, d + 1 => (if f k = true then 1 else 0) + cS f (k + 1) d
theorem e_fgC {Z : q_Z} {M : q_C} {z i : Nat} {W : q_W} (hB : BW Z M z W) (hW : okW W) (hd : ∀ k, k < W.K.length → trd M z k) (hi : i < W.n) : ∀ (d k a f : Nat), k + d = W.K.length → d + 1 < f →
    q_it (fun x : Int32 × Int32 => fX6_fitting_L21 z (some (z + 23 + i)) x.1 x.2 Z M) f (nI a, nI k) = some (nI (a + cS (ftk W i) k d)) := by
  have hl := hW.kl
  intro d
  induction d with
  | zero =>
    intro k a f h1 h2
    obtain ⟨f, rfl⟩ : ∃ y, f = y + 1 := ⟨f - 1, by omega⟩
    refine q_it_x ?_
    show fX6_fitting_L21 z (some (z + 23 + i)) (nI a) (nI k) Z M = _
    unfold fX6_fitting_L21
    rw [q_gdk hB.1.1.1, hB.1.2.2.2.2.2.2.1, if_pos (by rw [hW.kle (by omega)]; omega)]
    rfl
  | succ d ih =>
    intro k a f h1 h2
    obtain ⟨f, rfl⟩ : ∃ y, f = y + 1 := ⟨f - 1, by omega⟩
    have hk : k < W.K.length := by omega
    obtain ⟨w, b1, b2⟩ := (hd k hk).rd hB hW hk
    have body : fX6_fitting_L21 z (some (z + 23 + i)) (nI a) (nI k) Z M = some (.inl (nI (a + (if ftk W i k = true then 1 else 0)), nI (k + 1))) := by
      unfold fX6_fitting_L21 fX6_fitting_b56
      rw [q_gdk hB.1.1.1, hB.1.2.2.2.2.2.2.1, if_neg (by rw [hW.kle (by omega)]; omega), e_kw hB.1 hW hk, q_bis, b1, q_ons, e_isFit b2 hB.1 hW hi, q_bis, bi_if]
      simp only [q_nm]
      rw [nI_1, nI_1]
      split <;> rfl
    rw [q_it_s (y := (nI (a + (if ftk W i k = true then 1 else 0)), nI (k + 1))) body, ih (k + 1) _ f (by omega) (by omega), Nat.add_assoc]
    rfl
theorem e_fgM {Z : q_Z} {M : q_C} {m i : Nat} {W : q_W} (hB : MW Z M m W) (hW : okW W) (hi : i < W.n) : ∀ (d k a f : Nat), k + d = W.K.length → d + 1 < f →
    q_it (fun x : Int32 × Int32 => fX7_fitting_L14 m (nI i) x.1 x.2 Z M) f (nI a, nI k) = some (nI (a + cS (ftk W i) k d)) := by
  have hl := hW.kl
  intro d
  induction d with
  | zero =>
    intro k a f h1 h2
    obtain ⟨f, rfl⟩ : ∃ y, f = y + 1 := ⟨f - 1, by omega⟩
    refine q_it_x ?_
    show fX7_fitting_L14 m (nI i) (nI a) (nI k) Z M = _
    unfold fX7_fitting_L14
    rw [q_gdk hB.1.1.1, hB.1.2.2.2.2.2.2.1, if_pos (by rw [hW.kle (by omega)]; omega)]
    rfl
  | succ d ih =>
    intro k a f h1 h2
    obtain ⟨f, rfl⟩ : ∃ y, f = y + 1 := ⟨f - 1, by omega⟩
    have hk : k < W.K.length := by omega
    have body : fX7_fitting_L14 m (nI i) (nI a) (nI k) Z M = some (.inl (nI (a + (if ftk W i k = true then 1 else 0)), nI (k + 1))) := by
      unfold fX7_fitting_L14 fX7_fitting_b37
      rw [q_gdk hB.1.1.1, hB.1.2.2.2.2.2.2.1, if_neg (by rw [hW.kle (by omega)]; omega), e_fitsTh hB hW hk hi, q_bis, bi_if]
      simp only [q_nm]
      rw [nI_1, nI_1, Int32.add_zero]
      split <;> rfl
    rw [q_it_s (y := (nI (a + (if ftk W i k = true then 1 else 0)), nI (k + 1))) body, ih (k + 1) _ f (by omega) (by omega), Nat.add_assoc]
    rfl
theorem j_fitting {Z : q_Z} {M : q_C} {z : Nat} {W : q_W} (h : JW Z M z W) (s : Int32) : ∃ (r : Int32) (Z' : q_Z) (M' : q_C), fX6_fitting z s Z M = some (r, Z', M') ∧ fX7_fitting (z + 35) s Z' M' = some r ∧ JW Z' M' z W := by
  obtain ⟨hB, hM, hW⟩ := id h
  have hl := hW.kl
  rcases hW.sin s with hs | ⟨i, hi, rfl⟩
  · refine ⟨-1, Z, M, ?_, ?_, h⟩
    · unfold fX6_fitting
      rw [q_gdk hB.1.1.1, e_sightOf0 hB.1.1 hB.1.2.2.2.1 hs, q_bis, q_onn]
    · unfold fX7_fitting
      rw [q_gdk hM.1.1.1, e_isSg hM.1.1 hM.1.2.2.2.1, q_bis, bi_if, if_neg (fun q => q hs)]
  · obtain ⟨Z', M', a1, a2, a3, a4, a5⟩ := e_traceAll hB hW
    have hJ := h.tr a2 a3 a4
    have c1 := e_fgC a3 hW a5 hi W.K.length 0 0 q_FU (by omega) (by unfold q_FU; omega)
    have c2 := e_fgM hJ.2.1 hW hi W.K.length 0 0 q_FU (by omega) (by unfold q_FU; omega)
    rw [nI_0] at c1 c2
    refine ⟨nI (0 + cS (ftk W i) 0 W.K.length), Z', M', ?_, ?_, hJ⟩
    · unfold fX6_fitting fX6_fitting_b16
      rw [q_gdk hB.1.1.1, e_sightOf hB.1.1 hB.1.2.2.2.1 hi, q_bis, q_ons, a1, q_b2s, c1, q_bis]
      rfl
    · unfold fX7_fitting
      rw [q_gdk hJ.2.1.1.1.1, e_isSg hJ.2.1.1.1 hJ.2.1.1.2.2.2.1, q_bis, bi_if, if_pos (hW.sno hi), c2, q_bis]
      rfl
