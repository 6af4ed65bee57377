/-! grid, unsee, base: both -/
theorem iw_i {v a b : Int32} {x y : Int} (ha : a.toInt = x) (hb : b.toInt = y) : (a ≤ v ∧ v ≤ b) ↔ x ≤ v.toInt ∧ v.toInt ≤ y := by
  rw [Int32.le_iff_toInt_le, Int32.le_iff_toInt_le, ha, hb]
def gdW (W : q_W) (f b : Int32) (n : Nat) : q_W := mkW W.S W.T W.n W.sg W.ba f b n W.kd W.K W.t0 W.nr
theorem j_grid {Z : q_Z} {M : q_C} {z : Nat} {W : q_W} (h : JW Z M z W) (v1 v2 v3 : Int32) : ∃ (r : Int32) (M' M'' : q_C) (W' : q_W), fX6_grid z v1 v2 v3 Z M = some (r, M') ∧ fX7_grid (z + 35) v1 v2 v3 Z M' = some (r, M'') ∧ JW Z M'' z W' := by
  obtain ⟨hB, hM, hW⟩ := id h
  by_cases hs : ((1 : Int32) ≤ v1 ∧ v1 ≤ 20000) ∧ ((1 : Int32) ≤ v2 ∧ v2 ≤ 2000) ∧ ((1 : Int32) ≤ v3 ∧ v3 ≤ 10)
  · obtain ⟨s1, s2, s3⟩ := hs
    have t1 := (iw_i (x := 1) (y := 20000) rfl rfl).mp s1
    have t2 := (iw_i (x := 1) (y := 2000) rfl rfl).mp s2
    have t3 := (iw_i (x := 1) (y := 10) rfl rfl).mp s3
    obtain ⟨n, hn, hn2⟩ : ∃ n : Nat, v3 = nI n ∧ (n : Int) = v3.toInt := ⟨v3.toInt.toNat, i_eq (by rw [nI_toInt (by omega)]; omega), by omega⟩
    have ag1 : ∀ M : q_C, q_ag (fun a => a ≠ z) M (sI (sI (sI M z 6 v1) z 7 v2) z 8 v3) := fun M => agn_I (agn_I (agn_I q_ag.rf _ _) _ _) _ _
    have ag2 : ∀ M : q_C, q_ag (fun a => a ≠ z + 35) M (sI (sI (sI M (z + 35) 8 v1) (z + 35) 9 v2) (z + 35) 10 v3) := fun M => agn_I (agn_I (agn_I q_ag.rf _ _) _ _) _ _
    have hW' : okW (gdW W v1 v2 n) := ⟨hW.1, hW.2.1, hW.2.2.1, ⟨⟨t1, t2, by show 1 ≤ (nI n).toInt ∧ (nI n).toInt ≤ 10; rw [← hn]; exact t3⟩, by show 1 ≤ n; omega, by show n ≤ 10; omega⟩, hW.2.2.2.2⟩
    have k1 : ∀ q, q ≠ 6 → q ≠ 7 → q ≠ 8 → gI (sI (sI (sI M z 6 v1) z 7 v2) z 8 v3) z q = gI M z q := fun q q1 q2 q3 => by rw [gI_k _ _ _ _ q3, gI_k _ _ _ _ q2, gI_k _ _ _ _ q1]
    refine ⟨1, sI (sI (sI M z 6 v1) z 7 v2) z 8 v3, sI (sI (sI (sI (sI (sI M z 6 v1) z 7 v2) z 8 v3) (z + 35) 8 v1) (z + 35) 9 v2) (z + 35) 10 v3, gdW W v1 v2 n, ?_, ?_, h.st (hB.zi (W' := gdW W v1 v2 n) hW.kl (ag1 M) rfl rfl rfl rfl rfl (Nat.le_refl _) (fun _ _ => rfl) ?_ ?_ ⟨?_, ?_, ?_⟩ ?_ ?_) ((ag1 M).wk (fun a q => by omega)) (fun hm => ?_) ((ag2 _).wk (fun a q => by omega)) hW'⟩
    · unfold fX6_grid
      rw [e_isWithin, q_bis, bi_if, if_pos s1, e_isWithin, q_bis, bi_if, if_pos s2, e_isWithin, q_bis, bi_if, if_pos s3, q_gdk hB.1.1.1]
      simp only [q_nm]
      rw [q_gdc (by decide)]
    · unfold fX7_grid
      rw [e_is, q_bis, bi_if, if_pos s1, e_is, q_bis, bi_if, if_pos s2, e_is, q_bis, bi_if, if_pos s3, q_gdk hM.1.1.1]
      simp only [q_nm]
      rw [q_gdc (by decide)]
    · rw [k1 _ (by decide) (by decide) (by decide)]; exact hB.1.2.2.2.1.2.1
    · rw [k1 _ (by decide) (by decide) (by decide), k1 _ (by decide) (by decide) (by decide)]; exact hB.1.2.2.2.2.1
    · rw [gI_k _ _ _ _ (by decide), gI_k _ _ _ _ (by decide), gI_same]; rfl
    · rw [gI_k _ _ _ _ (by decide), gI_same]; rfl
    · rw [gI_same]; exact hn
    · rw [k1 _ (by decide) (by decide) (by decide)]; exact hB.1.2.2.2.2.2.2.1
    · rw [k1 _ (by decide) (by decide) (by decide)]; exact hB.1.2.2.2.2.2.2.2
    · generalize sI (sI (sI M z 6 v1) z 7 v2) z 8 v3 = M1 at *
      have k2 : ∀ q, q ≠ 8 → q ≠ 9 → q ≠ 10 → gI (sI (sI (sI M1 (z + 35) 8 v1) (z + 35) 9 v2) (z + 35) 10 v3) (z + 35) q = gI M1 (z + 35) q := fun q q1 q2 q3 => by rw [gI_k _ _ _ _ q3, gI_k _ _ _ _ q2, gI_k _ _ _ _ q1]
      refine hm.zi (W' := gdW W v1 v2 n) (ag2 M1) rfl rfl rfl rfl rfl (Nat.le_refl _) (fun _ _ => rfl) ?_ ?_ ⟨?_, ?_, ?_⟩ ?_ ?_ ?_
      · rw [k2 _ (by decide) (by decide) (by decide)]; exact hm.1.2.2.2.1.2.1
      · rw [k2 _ (by decide) (by decide) (by decide), k2 _ (by decide) (by decide) (by decide)]; exact hm.1.2.2.2.2.1
      · rw [gI_k _ _ _ _ (by decide), gI_k _ _ _ _ (by decide), gI_same]; rfl
      · rw [gI_k _ _ _ _ (by decide), gI_same]; rfl
      · rw [gI_same]; exact hn
      · rw [k2 _ (by decide) (by decide) (by decide)]; exact hm.1.2.2.2.2.2.2.1
      · rw [k2 _ (by decide) (by decide) (by decide)]; exact hm.1.2.2.2.2.2.2.2.1
      · rw [k2 _ (by decide) (by decide) (by decide)]; exact hm.1.2.2.2.2.2.2.2.2
  · refine ⟨0, M, M, W, ?_, ?_, h⟩
    · unfold fX6_grid fX6_grid_b32
      rw [e_isWithin, q_bis, bi_if, q_gdc (by decide)]
      by_cases q1 : (1 : Int32) ≤ v1 ∧ v1 ≤ 20000
      · rw [if_pos q1, e_isWithin, q_bis, bi_if]
        by_cases q2 : (1 : Int32) ≤ v2 ∧ v2 ≤ 2000
        · rw [if_pos q2, e_isWithin, q_bis, bi_if, if_neg (fun q3 => hs ⟨q1, q2, q3⟩)]
        · rw [if_neg q2]
      · rw [if_neg q1]
    · unfold fX7_grid fX7_grid_b32
      rw [e_is, q_bis, bi_if, q_gdc (by decide)]
      by_cases q1 : (1 : Int32) ≤ v1 ∧ v1 ≤ 20000
      · rw [if_pos q1, e_is, q_bis, bi_if]
        by_cases q2 : (1 : Int32) ≤ v2 ∧ v2 ≤ 2000
        · rw [if_pos q2, e_is, q_bis, bi_if, if_neg (fun q3 => hs ⟨q1, q2, q3⟩)]
        · rw [if_neg q2]
      · rw [if_neg q1]
/-! unsee -/
theorem e_isOB2 {Z : q_Z} {M : q_C} {z : Nat} {b1 b2 : Int32} (hz : zK Z z = 16) (h4 : gI M z 4 = b1) (h5 : gI M z 5 = b2) (v : Int32) : fX6_isOfBase z v Z M = some (bi (v = b1 ∨ v = b2)) := by
  unfold fX6_isOfBase fX6_isOfBase_b16 fX6_isOfBase_b21
  rw [q_gdk hz, h4, h5]
  by_cases h1 : v = b1
  · rw [if_pos h1, q_gdc (by decide), bi_t (Or.inl h1)]
  · rw [if_neg h1]
    by_cases h2 : v = b2
    · rw [if_pos h2, q_gdc (by decide), bi_t (Or.inr h2)]
    · rw [if_neg h2, q_gdc (by decide), bi_f (fun q => q.elim h1 h2)]
def unW (W : q_W) (ba : Option (Nat × Nat)) : q_W := mkW W.S W.T (W.n - 1) W.sg ba W.gF W.gB W.gN W.kd W.K W.t0 W.nr
theorem j_unsee {Z : q_Z} {M : q_C} {z : Nat} {W : q_W} (h : JW Z M z W) : ∃ (r : Int32) (M' M'' : q_C) (W' : q_W), fX6_unsee z Z M = some (r, M') ∧ fX7_unsee (z + 35) Z M' = some (r, M'') ∧ JW Z M'' z W' := by
  obtain ⟨hB, hM, hW⟩ := id h
  have h12 := hW.2.1.1
  obtain ⟨_, _, _, hg, ⟨g4, g5⟩, hgr, g10, g11⟩ := id hB.1
  have mg : ∀ q, gI M (z + 35) q = gI M (z + 35) q := fun _ => rfl
  by_cases h0 : W.n = 0
  · refine ⟨-1, M, M, W, ?_, ?_, h⟩
    · unfold fX6_unsee
      rw [q_gdk hB.1.1.1, hg.2.1, h0, if_neg (by decide)]
    · unfold fX7_unsee
      rw [q_gdk hM.1.1.1, hM.1.2.2.2.1.2.1, h0, if_pos (by decide)]
  · have hn1 : nI W.n - 1 = nI (W.n - 1) := by
      obtain ⟨n, hn⟩ : ∃ n, W.n = n + 1 := ⟨W.n - 1, by omega⟩
      rw [hn, nI_pred]
      rfl
    have h1n : (1 : Int32) ≤ nI W.n := nI_le (a := 1) (by omega) (by omega)
    have hn0 : ¬ nI W.n = 0 := nI_ne0 (by omega) (by omega)
    generalize hM1 : sI M z 3 (nI (W.n - 1)) = M1
    have a1 : q_ag (fun a => a ≠ z) M M1 := by rw [← hM1]; exact agn_I q_ag.rf _ _
    have r1 : M1.2.2 = M.2.2 := by rw [← hM1]; rfl
    have k1 : ∀ q, q ≠ 3 → gI M1 z q = gI M z q := fun q hq => by rw [← hM1, gI_k _ _ _ _ hq]
    have k13 : gI M1 z 3 = nI (W.n - 1) := by rw [← hM1, gI_same]
    have preC : fX6_unsee z Z M = if nI (W.n - 1) = w_b1 W ∨ nI (W.n - 1) = w_b2 W then fX6_unsee_b41 z Z (sI (sI M1 z 4 (-1)) z 5 (-1)) else fX6_unsee_b41 z Z M1 := by
      unfold fX6_unsee
      rw [q_gdk hB.1.1.1, hg.2.1, if_pos h1n, hn1]
      simp only [q_nm]
      rw [hM1, e_isOB2 (b1 := w_b1 W) (b2 := w_b2 W) hB.1.1.1 (by rw [k1 _ (by decide)]; exact g4) (by rw [k1 _ (by decide)]; exact g5), q_bis, bi_if, k13]
    have preM : ∀ M2 : q_C, MW Z M2 (z + 35) W → fX7_unsee (z + 35) Z M2 = if nI (W.n - 1) = w_b1 W ∨ nI (W.n - 1) = w_b2 W then fX7_unsee_b51 (z + 35) Z (sI (sI (sI M2 (z + 35) 6 (nI (W.n - 1))) (z + 35) 11 (-1)) (z + 35) 12 (-1)) else fX7_unsee_b51 (z + 35) Z (sI M2 (z + 35) 6 (nI (W.n - 1))) := by
      intro M2 hm
      obtain ⟨hz, _, _, hmg, ⟨m11, m12⟩, _⟩ := hm.1
      unfold fX7_unsee fX7_unsee_b41
      rw [q_gdk hz.1, hmg.2.1, if_neg hn0, hn1]
      simp only [q_nm]
      rw [gI_k _ _ _ _ (by decide), gI_same, gI_k _ _ _ _ (by decide), m11, m12, q_gdk hz.1]
      by_cases q1 : w_b1 W = nI (W.n - 1)
      · rw [if_pos q1, if_pos (Or.inl q1.symm)]
      · rw [if_neg q1]
        by_cases q2 : w_b2 W = nI (W.n - 1)
        · rw [if_pos q2, if_pos (Or.inr q2.symm)]
        · rw [if_neg q2, if_neg (fun q => q.elim (fun e => q1 e.symm) (fun e => q2 e.symm))]
    by_cases hc : nI (W.n - 1) = w_b1 W ∨ nI (W.n - 1) = w_b2 W
    · rw [if_pos hc] at preC
      have ag1 : q_ag (fun a => a ≠ z) M (sI (sI M1 z 4 (-1)) z 5 (-1)) := agn_I (agn_I a1 _ _) _ _
      have hm1 := hM.ag (Z' := Z) (M' := sI (sI M1 z 4 (-1)) z 5 (-1)) zx.rf (ag1.wk (fun a q => by omega))
      have pm := preM _ hm1
      rw [if_pos hc] at pm
      have kk : ∀ q, q ≠ 3 → q ≠ 4 → q ≠ 5 → gI (sI (sI M1 z 4 (-1)) z 5 (-1)) z q = gI M z q := fun q q1 q2 q3 => by rw [gI_k _ _ _ _ q3, gI_k _ _ _ _ q2, k1 _ q1]
      have hW' : okW (unW W none) := ⟨hW.1, ⟨by show W.n - 1 ≤ 12; omega, fun i hi => hW.2.1.2 i (by have : i < W.n - 1 := hi; omega)⟩, fun p hp => (by cases hp), hW.2.2.2⟩
      have ag2 : ∀ M2 : q_C, q_ag (fun a => a ≠ z + 35) M2 (sI (sI (sI M2 (z + 35) 6 (nI (W.n - 1))) (z + 35) 11 (-1)) (z + 35) 12 (-1)) := fun M2 => agn_I (agn_I (agn_I q_ag.rf _ _) _ _) _ _
      refine ⟨nI (W.n - 1), _, _, unW W none, preC.trans ?_, pm.trans ?_, h.st (hB.zi (W' := unW W none) hW.kl ag1 r1 rfl rfl rfl rfl (Nat.sub_le _ _) (fun _ _ => rfl) ?_ ⟨?_, ?_⟩ ?_ ?_ ?_) (ag1.wk (fun a q => by omega)) (fun hm => ?_) ((ag2 _).wk (fun a q => by omega)) hW'⟩
      · unfold fX6_unsee_b41
        rw [q_gdk hB.1.1.1, gI_k _ _ _ _ (by decide), gI_k _ _ _ _ (by decide), k13]
      · unfold fX7_unsee_b51
        rw [q_gdk hM.1.1.1, gI_k _ _ _ _ (by decide), gI_k _ _ _ _ (by decide), gI_same]
      · rw [gI_k _ _ _ _ (by decide), gI_k _ _ _ _ (by decide), k13]; rfl
      · rw [gI_k _ _ _ _ (by decide), gI_same]; rfl
      · rw [gI_same]; rfl
      · rw [kk _ (by decide) (by decide) (by decide), kk _ (by decide) (by decide) (by decide), kk _ (by decide) (by decide) (by decide)]; exact hgr
      · rw [kk _ (by decide) (by decide) (by decide)]; exact g10
      · rw [kk _ (by decide) (by decide) (by decide)]; exact g11
      · generalize sI (sI M1 z 4 (-1)) z 5 (-1) = M2 at *
        have k2 : ∀ q, q ≠ 6 → q ≠ 11 → q ≠ 12 → gI (sI (sI (sI M2 (z + 35) 6 (nI (W.n - 1))) (z + 35) 11 (-1)) (z + 35) 12 (-1)) (z + 35) q = gI M2 (z + 35) q := fun q q1 q2 q3 => by rw [gI_k _ _ _ _ q3, gI_k _ _ _ _ q2, gI_k _ _ _ _ q1]
        refine hm.zi (W' := unW W none) (ag2 M2) rfl rfl rfl rfl rfl (Nat.sub_le _ _) (fun _ _ => rfl) ?_ ⟨?_, ?_⟩ ?_ ?_ ?_ ?_
        · rw [gI_k _ _ _ _ (by decide), gI_k _ _ _ _ (by decide), gI_same]; rfl
        · rw [gI_k _ _ _ _ (by decide), gI_same]; rfl
        · rw [gI_same]; rfl
        · rw [k2 _ (by decide) (by decide) (by decide), k2 _ (by decide) (by decide) (by decide), k2 _ (by decide) (by decide) (by decide)]; exact hm.1.2.2.2.2.2.1
        · rw [k2 _ (by decide) (by decide) (by decide)]; exact hm.1.2.2.2.2.2.2.1
        · rw [k2 _ (by decide) (by decide) (by decide)]; exact hm.1.2.2.2.2.2.2.2.1
        · rw [k2 _ (by decide) (by decide) (by decide)]; exact hm.1.2.2.2.2.2.2.2.2
    · rw [if_neg hc] at preC
      have hm1 := hM.ag (Z' := Z) (M' := M1) zx.rf (a1.wk (fun a q => by omega))
      have pm := preM _ hm1
      rw [if_neg hc] at pm
      have hW' : okW (unW W W.ba) := by
        refine ⟨hW.1, ⟨by show W.n - 1 ≤ 12; omega, fun i hi => hW.2.1.2 i (by have : i < W.n - 1 := hi; omega)⟩, fun p hp => ?_, hW.2.2.2⟩
        have hp' : W.ba = some p := hp
        obtain ⟨b1, b2, b3, b4⟩ := hW.2.2.1 p hp'
        have c1 : p.1 ≠ W.n - 1 := fun q => hc (Or.inl (by unfold w_b1; rw [hp']; dsimp only; rw [q]))
        have c2 : p.2 ≠ W.n - 1 := fun q => hc (Or.inr (by unfold w_b2; rw [hp']; dsimp only; rw [q]))
        exact ⟨by show p.1 < W.n - 1; omega, by show p.2 < W.n - 1; omega, fun i hi => b3 i (by have : i < W.n - 1 := hi; omega), b4⟩
      have ag2 : ∀ M2 : q_C, q_ag (fun a => a ≠ z + 35) M2 (sI M2 (z + 35) 6 (nI (W.n - 1))) := fun M2 => agn_I q_ag.rf _ _
      refine ⟨nI (W.n - 1), _, _, unW W W.ba, preC.trans ?_, pm.trans ?_, h.st (hB.zi (W' := unW W W.ba) hW.kl a1 r1 rfl rfl rfl rfl (Nat.sub_le _ _) (fun _ _ => rfl) ?_ ⟨?_, ?_⟩ ?_ ?_ ?_) (a1.wk (fun a q => by omega)) (fun hm => ?_) ((ag2 _).wk (fun a q => by omega)) hW'⟩
      · unfold fX6_unsee_b41
        rw [q_gdk hB.1.1.1, k13]
      · unfold fX7_unsee_b51
        rw [q_gdk hM.1.1.1, gI_same]
      · rw [k13]; rfl
      · rw [k1 _ (by decide)]; exact g4
      · rw [k1 _ (by decide)]; exact g5
      · rw [k1 _ (by decide), k1 _ (by decide), k1 _ (by decide)]; exact hgr
      · rw [k1 _ (by decide)]; exact g10
      · rw [k1 _ (by decide)]; exact g11
      · have k2 : ∀ q, q ≠ 6 → gI (sI M1 (z + 35) 6 (nI (W.n - 1))) (z + 35) q = gI M1 (z + 35) q := fun q q1 => gI_k _ _ _ _ q1
        refine hm.zi (W' := unW W W.ba) (ag2 M1) rfl rfl rfl rfl rfl (Nat.sub_le _ _) (fun _ _ => rfl) ?_ ⟨?_, ?_⟩ ?_ ?_ ?_ ?_
        · rw [gI_same]; rfl
        · rw [k2 _ (by decide)]; exact hm.1.2.2.2.2.1.1
        · rw [k2 _ (by decide)]; exact hm.1.2.2.2.2.1.2
        · rw [k2 _ (by decide), k2 _ (by decide), k2 _ (by decide)]; exact hm.1.2.2.2.2.2.1
        · rw [k2 _ (by decide)]; exact hm.1.2.2.2.2.2.2.1
        · rw [k2 _ (by decide)]; exact hm.1.2.2.2.2.2.2.2.1
        · rw [k2 _ (by decide)]; exact hm.1.2.2.2.2.2.2.2.2
