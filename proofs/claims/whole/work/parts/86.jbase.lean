/-! base: both -/
def baW (W : q_W) (ba : Option (Nat × Nat)) : q_W := mkW W.S W.T W.n W.sg ba W.gF W.gB W.gN W.kd W.K W.t0 W.nr
theorem M_sg.at0 {Z : q_Z} {M : q_C} {m n i : Nat} {sg : Nat → Nat → Int32} (hz : zM Z M m) (h : M_sg M m n sg) (hi : i < n) : q_ok Z (m + 1 + 6) 1 ((5 : Int32) * nI i) = true ∧ gI M (m + 1 + 6) ((5 : Int32) * nI i).toNatClampNeg = sg i 0 := by
  have := M_sg.at (k := 0) hz h hi (by decide)
  rw [nI_0, Int32.add_zero] at this
  exact this
theorem j_base {Z : q_Z} {M : q_C} {z : Nat} {W : q_W} (h : JW Z M z W) (v1 v2 : Int32) : ∃ (r : Int32) (M' M'' : q_C) (W' : q_W), fX6_base z v1 v2 Z M = some (r, M') ∧ fX7_base (z + 35) v1 v2 Z M' = some (r, M'') ∧ JW Z M'' z W' := by
  obtain ⟨hB, hM, hW⟩ := id h
  have h12 := hW.2.1.1
  obtain ⟨hz, _, _, hg, _, hgr, g10, g11⟩ := id hB.1
  obtain ⟨mz, _, _, mg, _⟩ := id hM.1
  have no : fX6_base z v1 v2 Z M = some (0, M) → fX7_base (z + 35) v1 v2 Z M = some (0, M) → ∃ (r : Int32) (M' M'' : q_C) (W' : q_W), fX6_base z v1 v2 Z M = some (r, M') ∧ fX7_base (z + 35) v1 v2 Z M' = some (r, M'') ∧ JW Z M'' z W' := fun q1 q2 => ⟨0, M, M, W, q1, q2, h⟩
  rcases hW.sin v1 with s1 | ⟨a, ha, rfl⟩
  · refine no ?_ ?_
    · have so : ∃ o, fX6_sightOf z v2 Z M = some o := by
        rcases hW.sin v2 with hs | ⟨i, hi, rfl⟩
        · exact ⟨_, e_sightOf0 hz hg hs⟩
        · exact ⟨_, e_sightOf hz hg hi⟩
      obtain ⟨o, ho⟩ := so
      unfold fX6_base fX6_base_b49
      rw [q_gdk hz.1, e_sightOf0 hz hg s1, q_bis, ho, q_bis, q_onn, q_gdc (by decide)]
    · unfold fX7_base fX7_base_b61
      rw [q_gdk mz.1, e_isSg mz mg, q_bis, bi_if, if_neg (fun q => q s1), q_gdc (by decide)]
  · rcases hW.sin v2 with s2 | ⟨b, hb, rfl⟩
    · refine no ?_ ?_
      · unfold fX6_base fX6_base_b49
        rw [q_gdk hz.1, e_sightOf hz hg ha, q_bis, e_sightOf0 hz hg s2, q_bis, q_ons, q_onn, q_gdc (by decide)]
      · unfold fX7_base fX7_base_b61
        rw [q_gdk mz.1, e_isSg mz mg, q_bis, bi_if, if_pos (hW.sno ha), e_isSg mz mg, q_bis, bi_if, if_neg (fun q => q s2), q_gdc (by decide)]
    · have za := (hz.2.2.2.2.2.2.2.2 a (by omega)).2
      have zb := (hz.2.2.2.2.2.2.2.2 b (by omega)).2
      have preC : fX6_base z (nI a) (nI b) Z M = (if W.sg a 0 = 0 then (if W.sg b 0 = 0 then (if W.sg a 1 = W.sg b 1 then some (0, M) else if W.sg b 1 ≤ W.sg a 1 then fX6_base_b69 z (nI a) (nI b) (some (z + 23 + a)) (some (z + 23 + b)) (nI b) (some z) Z M else fX6_base_b69 z (nI a) (nI b) (some (z + 23 + a)) (some (z + 23 + b)) (nI a) (some z) Z M) else some (0, M)) else some (0, M)) := by
        unfold fX6_base fX6_base_b49
        rw [q_gdk hz.1, e_sightOf hz hg ha, q_bis, e_sightOf hz hg hb, q_bis, q_ons, q_ons, q_gdk za, q_gdk zb, q_gdc (by decide), hg.2.2 a ha 0 (by decide), hg.2.2 b hb 0 (by decide), hg.2.2 a ha 1 (by decide), hg.2.2 b hb 1 (by decide)]
      have preM : ∀ M2 : q_C, MW Z M2 (z + 35) W → fX7_base (z + 35) (nI a) (nI b) Z M2 = (if W.sg a 0 = 0 then (if W.sg b 0 = 0 then (if W.sg a 1 = W.sg b 1 then some (0, M2) else if W.sg b 1 ≤ W.sg a 1 then fX7_base_b92 (z + 35) (nI a) (nI b) (nI b) (some (z + 35)) Z M2 else fX7_base_b92 (z + 35) (nI a) (nI b) (nI a) (some (z + 35)) Z M2) else some (0, M2)) else some (0, M2)) := by
        intro M2 hm
        obtain ⟨nz, _, _, ng, _⟩ := id hm.1
        obtain ⟨o1, o2⟩ := M_sg.at0 nz ng ha
        obtain ⟨o3, o4⟩ := M_sg.at0 nz ng hb
        obtain ⟨o5, o6⟩ := M_sg.at (k := 1) nz ng ha (by decide)
        obtain ⟨o7, o8⟩ := M_sg.at (k := 1) nz ng hb (by decide)
        rw [show nI 1 = (1 : Int32) from rfl] at o5 o6 o7 o8
        unfold fX7_base fX7_base_b61
        rw [q_gdk nz.1, e_isSg nz ng, q_bis, bi_if, if_pos (hW.sno ha), e_isSg nz ng, q_bis, bi_if, if_pos (hW.sno hb), nz.a (f := 7) (k := 6) (by decide) rfl]
        simp only [q_bis]
        rw [q_gdc o1, o2, q_gdc o3, o4, q_gdc o5, q_gdc o7, q_gdc o5, q_gdc o7, o6, o8, q_gdc (by decide)]
      by_cases c0 : W.sg a 0 = 0 ∧ W.sg b 0 = 0 ∧ ¬ W.sg a 1 = W.sg b 1
      · obtain ⟨c1, c2, c3⟩ := c0
        have hab : a ≠ b := fun q => c3 (by rw [q])
        have fin : ∀ p1 p2 : Nat, p1 < W.n → p2 < W.n → W.sg p1 0 = 0 → W.sg p2 0 = 0 → (W.sg p1 1).toInt < (W.sg p2 1).toInt → JW Z (sI (sI (sI (sI M z 4 (nI p1)) z 5 (nI p2)) (z + 35) 11 (nI p1)) (z + 35) 12 (nI p2)) z (baW W (some (p1, p2))) := by
          intro p1 p2 b1 b2 b3 b4 b5
          have hW' : okW (baW W (some (p1, p2))) := ⟨hW.1, hW.2.1, fun p hp => (by cases hp; exact ⟨b1, b2, hW.2.1.2, b3, b4, b5⟩), hW.2.2.2⟩
          have ag1 : q_ag (fun a => a ≠ z) M (sI (sI M z 4 (nI p1)) z 5 (nI p2)) := agn_I (agn_I q_ag.rf _ _) _ _
          have ag2 : ∀ M2 : q_C, q_ag (fun a => a ≠ z + 35) M2 (sI (sI M2 (z + 35) 11 (nI p1)) (z + 35) 12 (nI p2)) := fun M2 => agn_I (agn_I q_ag.rf _ _) _ _
          have kk : ∀ q, q ≠ 4 → q ≠ 5 → gI (sI (sI M z 4 (nI p1)) z 5 (nI p2)) z q = gI M z q := fun q q1 q2 => by rw [gI_k _ _ _ _ q2, gI_k _ _ _ _ q1]
          refine h.st (hB.zi (W' := baW W (some (p1, p2))) hW.kl ag1 rfl rfl rfl rfl rfl (Nat.le_refl _) (fun _ _ => rfl) ?_ ⟨?_, ?_⟩ ?_ ?_ ?_) (ag1.wk (fun a q => by omega)) (fun hm => ?_) ((ag2 _).wk (fun a q => by omega)) hW'
          · rw [kk _ (by decide) (by decide)]; exact hg.2.1
          · rw [gI_k _ _ _ _ (by decide), gI_same]; rfl
          · rw [gI_same]; rfl
          · rw [kk _ (by decide) (by decide), kk _ (by decide) (by decide), kk _ (by decide) (by decide)]; exact hgr
          · rw [kk _ (by decide) (by decide)]; exact g10
          · rw [kk _ (by decide) (by decide)]; exact g11
          · generalize sI (sI M z 4 (nI p1)) z 5 (nI p2) = M2 at *
            have k2 : ∀ q, q ≠ 11 → q ≠ 12 → gI (sI (sI M2 (z + 35) 11 (nI p1)) (z + 35) 12 (nI p2)) (z + 35) q = gI M2 (z + 35) q := fun q q2 q3 => by rw [gI_k _ _ _ _ q3, gI_k _ _ _ _ q2]
            refine hm.zi (W' := baW W (some (p1, p2))) (ag2 M2) rfl rfl rfl rfl rfl (Nat.le_refl _) (fun _ _ => rfl) ?_ ⟨?_, ?_⟩ ?_ ?_ ?_ ?_
            · rw [k2 _ (by decide) (by decide)]; exact hm.1.2.2.2.1.2.1
            · rw [gI_k _ _ _ _ (by decide), gI_same]; rfl
            · rw [gI_same]; rfl
            · rw [k2 _ (by decide) (by decide), k2 _ (by decide) (by decide), k2 _ (by decide) (by decide)]; exact hm.1.2.2.2.2.2.1
            · rw [k2 _ (by decide) (by decide)]; exact hm.1.2.2.2.2.2.2.1
            · rw [k2 _ (by decide) (by decide)]; exact hm.1.2.2.2.2.2.2.2.1
            · rw [k2 _ (by decide) (by decide)]; exact hm.1.2.2.2.2.2.2.2.2
        have ga : ∀ v, gI (sI M z 4 v) (z + 23 + a) 1 = W.sg a 1 := fun v => by rw [gI_a _ _ _ _ (by omega)]; exact hg.2.2 a ha 1 (by decide)
        have gb : ∀ v, gI (sI M z 4 v) (z + 23 + b) 1 = W.sg b 1 := fun v => by rw [gI_a _ _ _ _ (by omega)]; exact hg.2.2 b hb 1 (by decide)
        rw [if_pos c1, if_pos c2, if_neg c3] at preC
        have hm1 : ∀ p1 p2 : Nat, MW Z (sI (sI M z 4 (nI p1)) z 5 (nI p2)) (z + 35) W := fun p1 p2 => hM.ag zx.rf ((q_ag.rf.sI (by omega) _ _).sI (by omega) _ _)
        by_cases c4 : W.sg b 1 ≤ W.sg a 1
        · rw [if_pos c4] at preC
          have pm := preM _ (hm1 b a)
          rw [if_pos c1, if_pos c2, if_neg c3, if_pos c4] at pm
          refine ⟨1, sI (sI M z 4 (nI b)) z 5 (nI a), _, _, preC.trans ?_, pm.trans ?_, fin b a hb ha c2 c1 ?_⟩
          · unfold fX6_base_b69 fX6_base_b90
            rw [q_bis, q_gdk hz.1]
            simp only [q_nm]
            rw [q_bis, q_gdk za, q_bis, q_gdk zb, ga, gb, if_pos c4, q_bis, q_gdk hz.1, q_gdc (by decide)]
          · unfold fX7_base_b92 fX7_base_b109
            rw [q_bis, q_gdk mz.1]
            simp only [q_nm]
            rw [q_gdk mz.1, gI_same, if_neg (by rw [nI_eq (by omega) (by omega)]; exact fun q => hab q.symm), q_bis, q_gdk mz.1, q_gdc (by decide)]
          · rw [Int32.le_iff_toInt_le] at c4
            have : ¬ (W.sg a 1).toInt = (W.sg b 1).toInt := fun q => c3 (i_eq q)
            omega
        · rw [if_neg c4] at preC
          have pm := preM _ (hm1 a b)
          rw [if_pos c1, if_pos c2, if_neg c3, if_neg c4] at pm
          refine ⟨1, sI (sI M z 4 (nI a)) z 5 (nI b), _, _, preC.trans ?_, pm.trans ?_, fin a b ha hb c1 c2 ?_⟩
          · unfold fX6_base_b69 fX6_base_b90
            rw [q_bis, q_gdk hz.1]
            simp only [q_nm]
            rw [q_bis, q_gdk za, q_bis, q_gdk zb, ga, gb, if_neg c4, q_bis, q_gdk hz.1, q_gdc (by decide)]
          · unfold fX7_base_b92 fX7_base_b109
            rw [q_bis, q_gdk mz.1]
            simp only [q_nm]
            rw [q_gdk mz.1, gI_same, if_pos rfl, q_bis, q_gdk mz.1, q_gdc (by decide)]
          · rw [Int32.le_iff_toInt_le] at c4
            omega
      · have pm := preM M hM
        have nn : ∀ (A B : Option (Int32 × q_C)), (if W.sg a 0 = 0 then (if W.sg b 0 = 0 then (if W.sg a 1 = W.sg b 1 then some ((0 : Int32), M) else if W.sg b 1 ≤ W.sg a 1 then A else B) else some (0, M)) else some (0, M)) = some (0, M) := by
          intro A B
          by_cases c1 : W.sg a 0 = 0
          · rw [if_pos c1]
            by_cases c2 : W.sg b 0 = 0
            · rw [if_pos c2]
              by_cases c3 : W.sg a 1 = W.sg b 1
              · rw [if_pos c3]
              · exact absurd ⟨c1, c2, c3⟩ c0
            · rw [if_neg c2]
          · rw [if_neg c1]
        exact no (preC.trans (nn _ _)) (pm.trans (nn _ _))
