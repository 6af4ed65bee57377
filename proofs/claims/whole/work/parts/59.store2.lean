theorem e_store {Z : q_Z} {M : q_C} {z k : Nat} {i j x y u v t : Int32} (hz : zB Z M z) (hR : zR Z M z) (hk : k < 100) (hs : wst M (z + 18) i j x y u v t) :
    ∃ (Z' : q_Z) (M' : q_C) (w : Nat), fX6_store z (nI k) Z M = some (Z', M') ∧ zx z Z Z' ∧ zR Z' M' z ∧ gR M' (z + 16) k = some w ∧ wst M' w i j x y u v t ∧ gI M' w 7 = 0 ∧ z + 53 ≤ w ∧ (∀ k', k' ≠ k → gR M' (z + 16) k' = gR M (z + 16) k') ∧ q_ag (fun a => a ≠ w ∧ a ≠ z + 16) M M' ∧ (gR M (z + 16) k = some w ∨ w = zS Z) := by
  have z18 := hz.2.2.2.2.2.2.1.2.1
  have z16 := hz.2.2.2.2.2.1
  have hokk : ∀ Z1 : q_Z, zx z Z Z1 → q_ok Z1 (z + 16) 4 (nI k) = true := fun Z1 h => q_okT (by rw [(h _ (by omega)).1]; exact z16.1) rfl (by omega) (by rw [(h _ (by omega)).2, z16.2]; exact hk)
  have hcl : (nI k).toNatClampNeg = k := nI_clamp (by omega)
  have pre : fX6_store z (nI k) Z M = q_on (gR M (z + 16) k) (
        q_gd (zK Z (zS Z) == 0) <|
        fX6_store_b31 z (nI k) (zS Z) (nI k) (z + 16) (zN Z 15 11) (cN M (zS Z))
      ) fun _ => fX6_store_b36 z (nI k) Z M := by
    rw [fX6_store]
    rw [if_neg (nI_pos (by omega)), q_gdk hz.1, hz.2.1.2.2.2.1, q_bis, q_gdk z16.1, z16.2, if_pos (Int32.not_le.mp (nI_ge hk (by omega))), q_bis, q_gdc (hokk Z zx.rf), hcl, q_bis]
  rw [pre]
  have b36 : ∀ (Z1 : q_Z) (M1 : q_C) (w : Nat), zx z Z Z1 → zB Z1 M1 z → gR M1 (z + 16) k = some w → zK Z1 w = 15 → z + 53 ≤ w → wst M1 (z + 18) i j x y u v t →
      ∃ M', fX6_store_b36 z (nI k) Z1 M1 = some (Z1, M') ∧ wst M' w i j x y u v t ∧ gI M' w 7 = 0 ∧ q_ag (fun a => a ≠ w) M1 M' ∧ M'.2.2 = M1.2.2 := by
    intro Z1 M1 w c1 c2 c3 c4 c5 c6
    obtain ⟨M', d1, d2, d3, d4, d5⟩ := e_becomeW c4 c2.2.2.2.2.2.2.1.2.1 (by omega) c6
    refine ⟨M', ?_, d2, d3, d4, d5⟩
    unfold fX6_store_b36
    rw [q_gdk c2.1, c2.2.1.2.2.2.1, q_bis, q_gdc (hokk Z1 c1), c2.2.1.2.2.2.2.2.1, q_bis, hcl, c3, q_bis, q_gdk c4, d1, q_bis]
  cases hw : gR M (z + 16) k with
  | some w =>
    rw [q_ons]
    obtain ⟨a1, a2, a3⟩ := hR.1 k w hk hw
    obtain ⟨M', d1, d2, d3, d4, d5⟩ := b36 Z M w zx.rf hz hw a2 a1 hs
    refine ⟨Z, M', w, d1, zx.rf, hR.mv (fun a _ => by rw [d5]), ?_, d2, d3, a1, fun k' _ => ?_, d4.wk (fun a h => h.1), Or.inl rfl⟩
    · unfold gR at hw ⊢; rw [d5]; exact hw
    · unfold gR; rw [d5]
  | none =>
    rw [q_onn, q_gdk (hR.2.2.2.2.2 _ (Nat.le_refl _))]
    have hge := hR.ge
    have hnx := hR.nx 15 11
    generalize hwz : zS Z = w at *
    have hk1 : zK (zN Z 15 11) w = 15 := by rw [← hwz]; exact zN_k _ _ _
    obtain ⟨M2, i1, i2, i3⟩ := e_initW (M := cN M w) hk1
    have i4 := (cN_ag M w).tr i3
    generalize hM3 : sR M2 (z + 16) k (some w) = M3
    have g3 : gR M3 (z + 16) k = some w := by rw [← hM3, gR_same]
    have a3 : q_ag (fun a => a ≠ w ∧ a ≠ z + 16) M M3 := by rw [← hM3]; exact (i4.wk (fun a h => h.1)).sR (fun q => q.2 rfl) _ _
    have g3' : ∀ k', k' ≠ k → gR M3 (z + 16) k' = gR M (z + 16) k' := fun k' q => by rw [← hM3, gR_sR, if_neg (fun e => q e.2), i4.R (by omega)]
    have w3 : gR M3 w 10 = none := by rw [← hM3, gR_a _ _ _ _ (by omega)]; exact i2
    have hB3 : zB (zN Z 15 11) M3 z := hz.ex hnx (fun a q1 q2 q3 => (a3 a (by omega)).2.2)
    obtain ⟨M', d1, d2, d3, d4, d5⟩ := b36 (zN Z 15 11) M3 w hnx hB3 g3 hk1 hge (hs.ag a3 (by omega))
    have r' : ∀ a q, gR M' a q = gR M3 a q := fun a q => by unfold gR; rw [d5]
    have hrow : ∀ k' w', k' < 100 → k' ≠ k → gR M3 (z + 16) k' = some w' → (gR M (z + 16) k' = some w' ∧ w' ≠ w ∧ z + 53 ≤ w' ∧ zK Z w' = 15 ∧ gR M3 w' 10 = gR M w' 10) := by
      intro k' w' q1 q2 q3
      rw [g3' k' q2] at q3
      obtain ⟨e1, e2, e3⟩ := hR.1 k' w' q1 q3
      have hne : w' ≠ w := by rw [← hwz]; exact hR.ne (by omega)
      exact ⟨q3, hne, e1, e2, a3.R (by omega) 10⟩
    refine ⟨zN Z 15 11, M', w, ?_, hnx, zR.mv (M := M3) ⟨?_, ?_, ?_, ?_, ?_, ?_⟩ (fun a _ => by rw [d5]), by rw [r']; exact g3, d2, d3, hge, fun k' q => by rw [r']; exact g3' k' q, a3.tr (d4.wk (fun a h => h.1)), Or.inr rfl⟩
    · unfold fX6_store_b31
      rw [i1, q_bis, q_gdc (hokk _ hnx), q_gdk hk1]
      simp only [q_nm]
      rw [hcl, hM3]
      exact d1
    · intro k' w' q1 q2
      by_cases q : k' = k
      · subst q
        rw [g3] at q2
        cases q2
        refine ⟨hge, hk1, fun p hp => ?_⟩
        rw [w3] at hp; cases hp
      · obtain ⟨e1, e2, e3, e4, e5⟩ := hrow k' w' q1 q q2
        obtain ⟨f1, f2, f3⟩ := hR.1 k' w' q1 e1
        refine ⟨f1, by rw [zN_K _ _ _ (by omega)]; exact f2, fun p hp => ?_⟩
        rw [e5] at hp
        obtain ⟨p1, p2, p3⟩ := f3 p hp
        have hpn : p ≠ zS Z := hR.ne (by omega)
        exact ⟨p1, by rw [zN_K _ _ _ hpn]; exact p2, by rw [zN_L _ _ _ hpn]; exact p3⟩
    · intro k1 k2 w' q1 q2 q3 q4
      by_cases e1 : k1 = k
      · by_cases e2 : k2 = k
        · omega
        · subst e1
          rw [g3] at q3
          cases q3
          exact absurd rfl (hrow k2 w q2 e2 q4).2.1
      · by_cases e2 : k2 = k
        · subst e2
          rw [g3] at q4
          cases q4
          exact absurd rfl (hrow k1 w q1 e1 q3).2.1
        · exact hR.2.1 k1 k2 w' q1 q2 (hrow k1 w' q1 e1 q3).1 (hrow k2 w' q2 e2 q4).1
    · intro k1 k2 w1 w2 p q1 q2 q3 q4 q5 q6
      by_cases e1 : k1 = k
      · subst e1
        rw [g3] at q3
        cases q3
        rw [w3] at q5; cases q5
      · by_cases e2 : k2 = k
        · subst e2
          rw [g3] at q4
          cases q4
          rw [w3] at q6; cases q6
        · have h1 := hrow k1 w1 q1 e1 q3
          have h2 := hrow k2 w2 q2 e2 q4
          rw [h1.2.2.2.2] at q5
          rw [h2.2.2.2.2] at q6
          exact hR.2.2.1 k1 k2 w1 w2 p q1 q2 h1.1 h2.1 q5 q6
    · have c1 : cnt (rwb M3 z) 100 = cnt (rwb M z) 100 + 1 := cnt_up hk (by unfold rwb; rw [hw]; rfl) (by unfold rwb; rw [g3]; rfl) (fun k' _ q => by unfold rwb; rw [g3' k' q])
      have c2 : cnt (plb M3 z) 100 = cnt (plb M z) 100 := cnt_eq (fun k' q1 => by
        unfold plb
        by_cases q : k' = k
        · subst q
          rw [g3, hw, q_bis, w3]
          rfl
        · cases hq : gR M3 (z + 16) k' with
          | none => rw [g3' k' q] at hq; rw [hq]; rfl
          | some w' =>
            obtain ⟨e1, e2, e3, e4, e5⟩ := hrow k' w' q1 q hq
            rw [e1, q_bis, q_bis, e5])
      have := hR.2.2.2.1
      rw [c1, c2, show zS (zN Z 15 11) = zS Z + 1 from rfl]
      omega
    · have c1 : cnt (rwb M3 z) 100 = cnt (rwb M z) 100 + 1 := cnt_up hk (by unfold rwb; rw [hw]; rfl) (by unfold rwb; rw [g3]; rfl) (fun k' _ q => by unfold rwb; rw [g3' k' q])
      have c2 : cnt (plb M3 z) 100 = cnt (plb M z) 100 := cnt_eq (fun k' q1 => by
        unfold plb
        by_cases q : k' = k
        · subst q
          rw [g3, hw, q_bis, w3]
          rfl
        · cases hq : gR M3 (z + 16) k' with
          | none => rw [g3' k' q] at hq; rw [hq]; rfl
          | some w' =>
            obtain ⟨e1, e2, e3, e4, e5⟩ := hrow k' w' q1 q hq
            rw [e1, q_bis, q_bis, e5])
      have := hR.2.2.2.2.1
      rw [c1, c2, show zC (zN Z 15 11) = zC Z + 11 from rfl]
      omega
    · intro a ha
      have hs' : zS (zN Z 15 11) = zS Z + 1 := rfl
      rw [zN_K _ _ _ (by omega)]
      exact hR.2.2.2.2.2 a (by omega)
