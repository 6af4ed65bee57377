/-! the class keeps, and counts without -/
theorem e_hasB {Z : q_Z} {M : q_C} {z : Nat} {W : q_W} (hB : BF Z M z W) (hW : okW W) : fX6_hasBase z Z M = some (bi (W.ba.isSome = true)) := by
  obtain ⟨hz, hS, hT, hg, ⟨e4, e5⟩, _⟩ := hB
  unfold fX6_hasBase fX6_hasBase_b26 fX6_hasBase_b27
  rw [q_gdk hz.1, e4, e5]
  unfold w_b1 w_b2
  cases hp : W.ba with
  | none => 
    dsimp only
    rw [e_sightOf0 hz hg (Or.inl (by decide)), q_bis, q_onn, q_gdc (by decide)]
    rfl
  | some p =>
    have hbk := hW.2.2.1 p hp
    dsimp only
    rw [e_sightOf hz hg hbk.1, q_bis, q_ons, e_sightOf hz hg hbk.2.1, q_bis, q_ons, q_gdc (by decide)]
    rfl
/-- the world when its then sky has become its now sky -/
def thW (W : q_W) : q_W := mkW W.S W.S W.n W.sg W.ba W.gF W.gB W.gN W.kd W.K W.t0 W.nr
/-- the world after keeping -/
def kpW (W : q_W) (p : Nat × Nat) : q_W := mkW W.S W.S W.n W.sg W.ba W.gF W.gB W.gN true (krows (trF W p (-1)) (trV W p) W.gN W.gN) (W.sg p.1 1).toInt W.nr
theorem okW.th {W : q_W} (h : okW W) : okW (thW W) := ⟨⟨h.1.1, h.1.1⟩, h.2⟩
theorem m1_ne {k : Nat} (h : k < 100) : (-1 : Int32) ≠ nI k := fun q => by
  have e : (-1 : Int32).toInt = (nI k).toInt := by rw [q]
  rw [nI_toInt (by omega)] at e
  have : (-1 : Int32).toInt = -1 := by decide
  omega
theorem kr_le {F : Nat → Nat → Bool} {V : Nat → Nat → q_cs} {g : Nat} (hg : g ≤ 10) : (krows F V g g).length ≤ 100 := by
  have h1 := krows_l F V g g
  have h2 : g * g ≤ 10 * 10 := Nat.mul_le_mul hg hg
  omega
theorem e_keepC {Z : q_Z} {M : q_C} {z : Nat} {W : q_W} {p : Nat × Nat} (hB : BW Z M z W) (hW : okW W) (hp : W.ba = some p) :
    ∃ (Z' : q_Z) (M' : q_C), fX6_keep z Z M = some (w_kc (kpW W p), Z', M') ∧ BW Z' M' z (kpW W p) ∧ zx z Z Z' ∧ q_ag (fun a => z + 35 ≤ a ∧ a ≤ z + 52) M M' := by
  obtain ⟨hF, hR, hK⟩ := hB
  have hz := hF.1
  obtain ⟨M1, a1, a2, a3, a4⟩ := e_kbecome hz.2.2.2.1 hz.2.2.1 (by omega) hF.2.1
  have hF1 : BF Z M1 z (thW W) := by
    obtain ⟨h1, h2, h3, h4, h5, h6, h7, h8⟩ := hF
    have hi : ∀ k, gI M1 z k = gI M z k := fun k => a3.I (by omega) k
    refine ⟨h1.mv a4, h2.ag a3 (fun i hi => by omega), a2, h4.ag a3 (by omega) (fun i hi => by omega), ?_, ?_, ?_, ?_⟩
    · rw [hi, hi]; exact h5
    · rw [hi, hi, hi]; exact h6
    · rw [hi]; exact h7
    · rw [hi]; exact h8
  have hR1 : zR Z M1 z := hR.mv (fun a _ => by rw [a4])
  have hbk := hW.2.2.1 p hp
  have hn12 := hW.2.1.1
  have hN := hW.2.2.2.1
  obtain ⟨Z2, M2, b1, b2⟩ := e_srch (but := (-1 : Int32)) (kb := (1 : Int32)) hF1 hR1 hW.th hp (m1_ne (by have := hbk.2.1; omega))
  have hl := kr_le (F := trF (thW W) p (-1)) (V := trV (thW W) p) (g := (thW W).gN) hN.2.2
  have hkp := b2.2.2.2.2 (by decide)
  have hF2 := hF1.mv b2.1 b2.2.1
  have z16 := hF2.1.1
  have ag3 : ∀ v, q_ag (fun a => a ≠ z) M2 (sI M2 z 10 v) := fun v => agn_I q_ag.rf _ _
  have hcnt : nI (krows (trF (thW W) p (-1)) (trV (thW W) p) (thW W).gN (thW W).gN).length = w_kc (kpW W p) := rfl
  rw [hcnt] at b1
  refine ⟨Z2, sI M2 z 10 (w_kc (kpW W p)), ?_, ⟨?_, ?_, ?_⟩, b2.1, ?_⟩
  · unfold fX6_keep fX6_keep_b27
    rw [q_gdk hz.1, e_hasB hF hW, q_bis, bi_if, hp, if_pos (show (some p).isSome = true from rfl), hz.2.1.2.1, q_bis, hz.2.1.1, q_bis, q_gdk hz.2.2.2.1.1, a1, q_bis, b1, q_b3s, q_gdk z16]
    simp only [q_nm]
    rw [q_gdk z16, gI_same]
  · obtain ⟨h1, h2, h3, h4, h5, h6, h7, h8⟩ := hF2
    have h3' : B_sk M2 (z + 8) W.S := h3
    refine ⟨h1.mv rfl, h2.ag (ag3 _) (fun i hi => by omega), h3'.ag (ag3 _) (fun i hi => by omega), ⟨h4.1, ?_, fun i hi k hk => ?_⟩, ⟨?_, ?_⟩, ⟨?_, ?_, ?_⟩, gI_same _ _ _ _, ?_⟩
    · rw [gI_k _ _ _ _ (by decide)]; exact h4.2.1
    · rw [gI_a _ _ _ _ (by omega)]; exact h4.2.2 i hi k hk
    · rw [gI_k _ _ _ _ (by decide)]; exact h5.1
    · rw [gI_k _ _ _ _ (by decide)]; exact h5.2
    · rw [gI_k _ _ _ _ (by decide)]; exact h6.1
    · rw [gI_k _ _ _ _ (by decide)]; exact h6.2.1
    · rw [gI_k _ _ _ _ (by decide)]; exact h6.2.2
    · rw [gI_k _ _ _ _ (by decide)]; exact h8
  · exact b2.2.2.1.mv (fun a _ => rfl)
  · exact hkp.ag b2.2.2.1 hl (ag3 _) (by omega) (fun a ha => by omega)
  · exact ((a3.wk (fun a ha => by omega)).tr (b2.2.1.1.wk (fun a ha => by omega))).tr ((ag3 _).wk (fun a ha => by omega))
theorem e_keepC0 {Z : q_Z} {M : q_C} {z : Nat} {W : q_W} (hB : BW Z M z W) (hW : okW W) (hp : W.ba = none) : fX6_keep z Z M = some (-1, Z, M) := by
  unfold fX6_keep
  rw [q_gdk hB.1.1.1, e_hasB hB.1 hW, q_bis, bi_if, hp, if_neg (by decide)]
/-- the class counts without one sight -/
theorem e_isOB {Z : q_Z} {M : q_C} {z : Nat} {W : q_W} (hB : BF Z M z W) (v : Int32) : fX6_isOfBase z v Z M = some (bi (v = w_b1 W ∨ v = w_b2 W)) := by
  obtain ⟨hz, hS, hT, hg, ⟨e4, e5⟩, _⟩ := hB
  unfold fX6_isOfBase fX6_isOfBase_b16 fX6_isOfBase_b21
  rw [q_gdk hz.1, e4, e5]
  by_cases h1 : v = w_b1 W
  · rw [if_pos h1, q_gdc (by decide), bi_t (Or.inl h1)]
  · rw [if_neg h1]
    by_cases h2 : v = w_b2 W
    · rw [if_pos h2, q_gdc (by decide), bi_t (Or.inr h2)]
    · rw [if_neg h2, q_gdc (by decide), bi_f (fun q => q.elim h1 h2)]
/-- what counting without a sight answers -/
def woR (W : q_W) (v : Int32) : Int32 := match W.ba with
  | none => -1
  | some p => if v < 0 ∨ nI W.n ≤ v then -1 else if v = nI p.1 ∨ v = nI p.2 then -1 else nI (krows (trF W p v) (trV W p) W.gN W.gN).length
theorem e_withC {Z : q_Z} {M : q_C} {z : Nat} {W : q_W} (hB : BW Z M z W) (hW : okW W) (v : Int32) :
    ∃ (M' : q_C), fX6_without z v Z M = some (woR W v, Z, M') ∧ BW Z M' z W ∧ q_ag (fun a => z + 35 ≤ a ∧ a ≤ z + 52) M M' := by
  obtain ⟨hF, hR, hK⟩ := hB
  have hz := hF.1
  have hg := hF.2.2.2.1
  unfold fX6_without fX6_without_b23 fX6_without_b31 woR
  rw [q_gdk hz.1, e_hasB hF hW, q_bis, bi_if]
  cases hp : W.ba with
  | none =>
    rw [if_neg (by decide)]
    exact ⟨M, rfl, ⟨hF, hR, hK⟩, q_ag.rf⟩
  | some p =>
    rw [if_pos (show (some p).isSome = true from rfl)]
    dsimp only
    by_cases h1 : v < 0 ∨ nI W.n ≤ v
    · rw [if_pos h1, e_sightOf0 hz hg h1, q_bis, q_onn]
      exact ⟨M, rfl, ⟨hF, hR, hK⟩, q_ag.rf⟩
    · rw [if_neg h1]
      have h1a : ¬ v < 0 := fun q => h1 (Or.inl q)
      have h1b : ¬ nI W.n ≤ v := fun q => h1 (Or.inr q)
      have hn12 := hW.2.1.1
      have hv : ∃ k, k < W.n ∧ v = nI k := by
        rw [Int32.lt_iff_toInt_lt] at h1a
        rw [Int32.le_iff_toInt_le, nI_toInt (by omega)] at h1b
        have e0 : (0 : Int32).toInt = 0 := rfl
        refine ⟨v.toInt.toNat, by omega, i_eq ?_⟩
        rw [nI_toInt (by omega)]
        omega
      obtain ⟨k, hk, rfl⟩ := hv
      have eb : fX6_isOfBase z (nI k) Z M = some (bi (nI k = nI p.1 ∨ nI k = nI p.2)) := by
        have := e_isOB hF (nI k)
        unfold w_b1 w_b2 at this
        rw [hp] at this
        exact this
      rw [e_sightOf hz hg hk, q_bis, q_ons, eb, q_bis, bi_if]
      by_cases h2 : nI k = nI p.1 ∨ nI k = nI p.2
      · rw [if_pos h2, if_pos h2]
        exact ⟨M, rfl, ⟨hF, hR, hK⟩, q_ag.rf⟩
      · rw [if_neg h2, if_neg h2]
        obtain ⟨Z2, M2, b1, b2⟩ := e_srch (but := nI k) (kb := (0 : Int32)) hF hR hW hp (fun q => h2 (Or.inr q))
        obtain ⟨q1, q2⟩ := b2.2.2.2.1 rfl
        subst q1
        rw [b1, q_b3s]
        exact ⟨M2, rfl, ⟨hF.mv b2.1 b2.2.1, b2.2.2.1, hK.ag hR hW.2.2.2.2.2.1 q2 (Or.inl rfl) (fun a ha => Or.inr ha)⟩, b2.2.1.1.wk (fun a ha => by omega)⟩
