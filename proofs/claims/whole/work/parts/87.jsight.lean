/-! sight, miss: both -/
theorem e_isDir (a b : Int32) : fX6_isDirection a b = some (bi (((-1000 : Int32) ≤ a ∧ a ≤ 1000) ∧ ((-1000 : Int32) ≤ b ∧ b ≤ 1000) ∧ ¬ (a = 0 ∧ b = 0))) := by
  unfold fX6_isDirection fX6_isDirection_b38 fX6_isDirection_b34 fX6_isDirection_b39
  rw [e_isWithin, q_bis, bi_if, e_isWithin, q_bis, bi_if, q_gdc (by decide), q_gdc (by decide)]
  by_cases h1 : (-1000 : Int32) ≤ a ∧ a ≤ 1000
  · rw [if_pos h1]
    by_cases h2 : (-1000 : Int32) ≤ b ∧ b ≤ 1000
    · rw [if_pos h2]
      by_cases h3 : a = 0
      · rw [if_pos h3]
        by_cases h4 : b = 0
        · rw [if_pos h4, bi_f (fun q => q.2.2 ⟨h3, h4⟩)]
        · have h5 : ((-1000 : Int32) ≤ a ∧ a ≤ 1000) ∧ ((-1000 : Int32) ≤ b ∧ b ≤ 1000) ∧ ¬ (a = 0 ∧ b = 0) := ⟨h1, h2, fun q => h4 q.2⟩
          rw [if_neg h4, bi_t h5]
      · have h5 : ((-1000 : Int32) ≤ a ∧ a ≤ 1000) ∧ ((-1000 : Int32) ≤ b ∧ b ≤ 1000) ∧ ¬ (a = 0 ∧ b = 0) := ⟨h1, h2, fun q => h3 q.1⟩
        rw [if_neg h3, bi_t h5]
    · rw [if_neg h2, bi_f (fun q => h2 q.2.1)]
  · rw [if_neg h1, bi_f (fun q => h1 q.1)]
/-- sights with one put anew -/
def sgU (sg : Nat → Nat → Int32) (i : Nat) (s : Nat → Int32) : Nat → Nat → Int32 := fun j => if j = i then s else sg j
def sgW (W : q_W) (n : Nat) (sg : Nat → Nat → Int32) : q_W := mkW W.S W.T n sg W.ba W.gF W.gB W.gN W.kd W.K W.t0 W.nr
/-- cells of the class and its sights change -/
theorem BW.si {Z : q_Z} {M M' : q_C} {z : Nat} {W : q_W} {n : Nat} {sg : Nat → Nat → Int32} (h : BW Z M z W) (hl : W.K.length ≤ 100) (ha : q_ag (fun a => a ≠ z ∧ ¬ (z + 23 ≤ a ∧ a ≤ z + 34)) M M') (er : M'.2.2 = M.2.2) (hn : n ≤ 12) (g3 : gI M' z 3 = nI n) (gz : ∀ q, q ≠ 3 → gI M' z q = gI M z q) (gs : ∀ i, i < n → ∀ k, k < 5 → gI M' (z + 23 + i) k = sg i k) : BW Z M' z (sgW W n sg) := by
  obtain ⟨⟨h1, h2, h3, h4, h5, h6, h7, h8⟩, hR, hK⟩ := h
  refine ⟨⟨h1.mv er, h2.ag ha (fun i hi => by omega), h3.ag ha (fun i hi => by omega), ⟨hn, g3, gs⟩, ?_, ?_, ?_, ?_⟩, hR.mv (fun a _ => by rw [er]), hK.ag hR hl ha (by omega) (fun a q => by omega)⟩
  · rw [gz _ (by decide), gz _ (by decide)]; exact h5
  · rw [gz _ (by decide), gz _ (by decide), gz _ (by decide)]; exact h6
  · rw [gz _ (by decide)]; exact h7
  · rw [gz _ (by decide)]; exact h8
theorem MW.si {Z : q_Z} {M M' : q_C} {m : Nat} {W : q_W} {n : Nat} {sg : Nat → Nat → Int32} (h : MW Z M m W) (ha : q_ag (fun a => a ≠ m ∧ a ≠ m + 7) M M') (er : M'.2.2 = M.2.2) (hn : n ≤ 12) (g6 : gI M' m 6 = nI n) (gz : ∀ q, q ≠ 6 → gI M' m q = gI M m q) (gs : ∀ i, i < n → ∀ k, k < 5 → gI M' (m + 7) (5 * i + k) = sg i k) : MW Z M' m (sgW W n sg) := by
  obtain ⟨⟨h1, h2, h3, h4, h5, h6, h7, h8, h9⟩, hK⟩ := h
  refine ⟨⟨h1.mv er, ⟨h2.1.ag ha (by omega) (by omega), h2.2.1.ag ha (by omega) (by omega), by rw [ha.I (by omega)]; exact h2.2.2.1, by rw [ha.I (by omega)]; exact h2.2.2.2⟩, h3.ag ha (by omega) (by omega), ⟨hn, g6, gs⟩, ?_, ?_, ?_, ?_, ?_⟩, hK.zi (fun q => ha.I (by omega) q) (fun q => ha.I (by omega) q) (fun a q q1 q2 => ha.J (by omega) q)⟩
  · rw [gz _ (by decide), gz _ (by decide)]; exact h5
  · rw [gz _ (by decide), gz _ (by decide), gz _ (by decide)]; exact h6
  · rw [gz _ (by decide)]; exact h7
  · rw [gz _ (by decide)]; exact h8
  · rw [gz _ (by decide)]; exact h9
theorem okW.sgn {W : q_W} (hW : okW W) {n : Nat} {sg : Nat → Nat → Int32} (hn : n ≤ 12) (hW2 : W.n ≤ n) (ho : ∀ i, i < n → okS1 (sg i)) (hk : ∀ i, i < W.n → sg i 0 = W.sg i 0 ∧ sg i 1 = W.sg i 1) : okW (sgW W n sg) := by
  refine ⟨hW.1, ⟨hn, ho⟩, fun p hp => ?_, hW.2.2.2⟩
  obtain ⟨b1, b2, b3, b4, b5, b6⟩ := hW.2.2.1 p hp
  refine ⟨by show p.1 < n; omega, by show p.2 < n; omega, ho, ?_, ?_, ?_⟩
  · show sg p.1 0 = 0
    rw [(hk _ b1).1]; exact b4
  · show sg p.2 0 = 0
    rw [(hk _ b2).1]; exact b5
  · show (sg p.1 1).toInt < (sg p.2 1).toInt
    rw [(hk _ b1).2, (hk _ b2).2]; exact b6
def s5 (a b c d e : Int32) : Nat → Int32 := fun k => match k with
  | 0 => a
  | 1 => b
  | 2 => c
  | 3 => d
  | _ => e
theorem i_5k {n : Nat} (k : Nat) (v : Int32) (hv : v = nI k) : (5 : Int32) * nI n + v = nI (5 * n + k) := by rw [hv]; exact i_5
theorem j_sight {Z : q_Z} {M : q_C} {z : Nat} {W : q_W} (h : JW Z M z W) (v1 v2 v3 v4 v5 : Int32) : ∃ (r : Int32) (M' M'' : q_C) (W' : q_W), fX6_sight z v1 v2 v3 v4 v5 Z M = some (r, M') ∧ fX7_sight (z + 35) v1 v2 v3 v4 v5 Z M' = some (r, M'') ∧ JW Z M'' z W' := by
  obtain ⟨hB, hM, hW⟩ := id h
  have h12 := hW.2.1.1
  obtain ⟨hz, _, _, hg, _⟩ := id hB.1
  obtain ⟨mz, _, _, mg, _⟩ := id hM.1
  by_cases hc : W.n < 12 ∧ ((0 : Int32) ≤ v1 ∧ v1 ≤ 2) ∧ ((-300 : Int32) ≤ v2 ∧ v2 ≤ 300) ∧ (((-1000 : Int32) ≤ v3 ∧ v3 ≤ 1000) ∧ ((-1000 : Int32) ≤ v4 ∧ v4 ≤ 1000) ∧ ¬ (v3 = 0 ∧ v4 = 0)) ∧ ((0 : Int32) ≤ v5 ∧ v5 ≤ 1000)
  · obtain ⟨c0, c1, c2, c3, c5⟩ := hc
    have t1 := (iw_i (x := 0) (y := 2) rfl rfl).mp c1
    have t2 := st_i.mp c2
    have t3 := (iw_i (x := -1000) (y := 1000) rfl rfl).mp c3.1
    have t4 := (iw_i (x := -1000) (y := 1000) rfl rfl).mp c3.2.1
    have t5 := (iw_i (x := 0) (y := 1000) rfl rfl).mp c5
    have hss : okS1 (s5 v1 v2 v3 v4 v5) := by
      refine ⟨t1, t2, t3, t4, ?_, t5⟩
      show v3.toInt ≠ 0 ∨ v4.toInt ≠ 0
      by_cases q : v3.toInt = 0
      · right
        intro q2
        exact c3.2.2 ⟨i_eq (by rw [q]; rfl), i_eq (by rw [q2]; rfl)⟩
      · exact Or.inl q
    have okW' : okW (sgW W (W.n + 1) (sgU W.sg W.n (s5 v1 v2 v3 v4 v5))) := by
      refine hW.sgn (by omega) (by omega) (fun i hi => ?_) (fun i hi => ?_)
      · unfold sgU
        by_cases q : i = W.n
        · rw [if_pos q]; exact hss
        · rw [if_neg q]; exact hW.2.1.2 i (by omega)
      · unfold sgU
        rw [if_neg (by omega)]
        exact ⟨rfl, rfl⟩
    generalize hs0 : z + 23 + W.n = s0
    have hs1 : z + 23 ≤ s0 ∧ s0 ≤ z + 34 := by omega
    have zs : zK Z s0 = 12 := by rw [← hs0]; exact (hz.2.2.2.2.2.2.2.2 W.n (by omega)).2
    have rs : gR M (z + 15) W.n = some s0 := by rw [← hs0]; exact (hz.2.2.2.2.2.2.2.2 W.n (by omega)).1
    generalize hM1 : sI (sI (sI (sI (sI M s0 0 v1) s0 1 v2) s0 2 v3) s0 3 v4) s0 4 v5 = M1
    have a1 : q_ag (fun a => a ≠ s0) M M1 := by rw [← hM1]; exact agn_I (agn_I (agn_I (agn_I (agn_I q_ag.rf _ _) _ _) _ _) _ _) _ _
    have r1 : M1.2.2 = M.2.2 := by rw [← hM1]; rfl
    have g1 : ∀ k, k < 5 → gI M1 s0 k = s5 v1 v2 v3 v4 v5 k := by
      intro k hk
      rw [← hM1]
      rcases (show k = 0 ∨ k = 1 ∨ k = 2 ∨ k = 3 ∨ k = 4 by omega) with rfl | rfl | rfl | rfl | rfl
      · rw [gI_k _ _ _ _ (by decide), gI_k _ _ _ _ (by decide), gI_k _ _ _ _ (by decide), gI_k _ _ _ _ (by decide), gI_same]; rfl
      · rw [gI_k _ _ _ _ (by decide), gI_k _ _ _ _ (by decide), gI_k _ _ _ _ (by decide), gI_same]; rfl
      · rw [gI_k _ _ _ _ (by decide), gI_k _ _ _ _ (by decide), gI_same]; rfl
      · rw [gI_k _ _ _ _ (by decide), gI_same]; rfl
      · rw [gI_same]; rfl
    have z3 : gI M1 z 3 = nI W.n := by rw [a1.I (by omega)]; exact hg.2.1
    have a2 : q_ag (fun a => a ≠ z ∧ ¬ (z + 23 ≤ a ∧ a ≤ z + 34)) M (sI M1 z 3 (nI (W.n + 1))) := (a1.wk (fun a q => by omega)).sI (fun q => q.1 rfl) _ _
    have hB' : BW Z (sI M1 z 3 (nI (W.n + 1))) z (sgW W (W.n + 1) (sgU W.sg W.n (s5 v1 v2 v3 v4 v5))) := by
      refine hB.si hW.kl a2 r1 (by omega) (gI_same _ _ _ _) (fun q hq => ?_) (fun i hi k hk => ?_)
      · rw [gI_k _ _ _ _ hq, a1.I (by omega)]
      · rw [gI_a _ _ _ _ (by omega)]
        unfold sgU
        by_cases q : i = W.n
        · rw [if_pos q, q, hs0]; exact g1 k hk
        · rw [if_neg q, a1.I (by omega)]; exact hg.2.2 i (by omega) k hk
    generalize hM2 : sI M1 z 3 (nI (W.n + 1)) = M2 at a2 hB'
    have hm2 : MW Z M2 (z + 35) W := hM.ag zx.rf (a2.wk (fun a q => by omega))
    obtain ⟨nz, _, _, ng, _⟩ := id hm2.1
    have ok : ∀ k, k < 5 → q_ok Z (z + 35 + 7) 1 (nI (5 * W.n + k)) = true := fun k hk => q_okT (nz.k1 (k := 6) (by decide)) rfl (by omega) (by rw [nz.l (k := 6) (n := 60) (by decide) rfl]; omega)
    have rr : ∀ M3 : q_C, M3.2.2 = M2.2.2 → gR M3 (z + 35) 7 = some (z + 35 + 7) := fun M3 e => (nz.mv e).a (f := 7) (k := 6) (by decide) rfl
    generalize hM3 : sI (sI (sI (sI (sI M2 (z + 35 + 7) (5 * W.n) v1) (z + 35 + 7) (5 * W.n + 1) v2) (z + 35 + 7) (5 * W.n + 2) v3) (z + 35 + 7) (5 * W.n + 3) v4) (z + 35 + 7) (5 * W.n + 4) v5 = M3
    have a3 : q_ag (fun a => a ≠ z + 35 + 7) M2 M3 := by rw [← hM3]; exact agn_I (agn_I (agn_I (agn_I (agn_I q_ag.rf _ _) _ _) _ _) _ _) _ _
    have r3 : M3.2.2 = M2.2.2 := by rw [← hM3]; rfl
    have g3 : ∀ k, k < 5 → gI M3 (z + 35 + 7) (5 * W.n + k) = s5 v1 v2 v3 v4 v5 k := by
      intro k hk
      rw [← hM3]
      rcases (show k = 0 ∨ k = 1 ∨ k = 2 ∨ k = 3 ∨ k = 4 by omega) with rfl | rfl | rfl | rfl | rfl
      · rw [gI_k _ _ _ _ (by omega), gI_k _ _ _ _ (by omega), gI_k _ _ _ _ (by omega), gI_k _ _ _ _ (by omega), show 5 * W.n + 0 = 5 * W.n from rfl, gI_same]; rfl
      · rw [gI_k _ _ _ _ (by omega), gI_k _ _ _ _ (by omega), gI_k _ _ _ _ (by omega), gI_same]; rfl
      · rw [gI_k _ _ _ _ (by omega), gI_k _ _ _ _ (by omega), gI_same]; rfl
      · rw [gI_k _ _ _ _ (by omega), gI_same]; rfl
      · rw [gI_same]; rfl
    have g3o : ∀ q, q < 5 * W.n → gI M3 (z + 35 + 7) q = gI M2 (z + 35 + 7) q := fun q hq => by
      rw [← hM3, gI_k _ _ _ _ (by omega), gI_k _ _ _ _ (by omega), gI_k _ _ _ _ (by omega), gI_k _ _ _ _ (by omega), gI_k _ _ _ _ (by omega)]
    have z6 : gI M3 (z + 35) 6 = nI W.n := by rw [a3.I (by omega)]; exact ng.2.1
    have a4 : q_ag (fun a => a ≠ z + 35 ∧ a ≠ z + 35 + 7) M2 (sI M3 (z + 35) 6 (nI (W.n + 1))) := (a3.wk (fun a q => q.2)).sI (fun q => q.1 rfl) _ _
    refine ⟨nI W.n, M2, sI M3 (z + 35) 6 (nI (W.n + 1)), _, ?_, ?_, h.st hB' (a2.wk (fun a q => by omega)) (fun hm => hm.si a4 r3 (by omega) (gI_same _ _ _ _) (fun q hq => ?_) (fun i hi k hk => ?_)) (a4.wk (fun a q => by omega)) okW'⟩
    · unfold fX6_sight
      rw [q_gdk hz.1, hz.2.1.2.2.1, q_bis, q_gdk hz.2.2.2.2.1.1, hz.2.2.2.2.1.2, hg.2.1, if_neg (nI_ge c0 (by omega)), e_isWithin, q_bis, bi_if, if_pos c1, e_isStep, q_bis, bi_if, if_pos c2, e_isDir, q_bis, bi_if, if_pos c3, e_isWithin, q_bis, bi_if, if_pos c5, q_bis, q_gdc (q_okT hz.2.2.2.2.1.1 rfl (by omega) (by rw [hz.2.2.2.2.1.2]; omega))]
      simp only [q_nm]
      rw [nI_clamp (by omega), rs, q_ons, q_gdk zs, hM1, z3, nI_1, hM2, ← hM2, gI_same, nI_pred]
    · have b52 : fX7_sight_b52 (z + 35) v1 v2 v3 v4 v5 Z M2 = some (nI W.n, sI M3 (z + 35) 6 (nI (W.n + 1))) := by
        unfold fX7_sight_b52
        rw [e_is, q_bis, bi_if, if_pos c5, q_gdk nz.1, ng.2.1, if_neg (by rw [show (12 : Int32) = nI 12 from rfl, nI_eq (by omega) (by omega)]; omega)]
        simp only [q_nm, gR_sI, rr M2 rfl, q_bis]
        have ok0 := ok 0 (by decide)
        rw [show 5 * W.n + 0 = 5 * W.n from rfl] at ok0
        rw [show (5 : Int32) * nI W.n = nI (5 * W.n) by rw [show (5 : Int32) = nI 5 from rfl, pk_mul], q_gdc ok0, nI_clamp (by omega), show nI (5 * W.n) + (1 : Int32) = nI (5 * W.n + 1) from nI_add _ 1, q_gdc (ok 1 (by decide)), nI_clamp (by omega), show nI (5 * W.n) + (2 : Int32) = nI (5 * W.n + 2) from nI_add _ 2, q_gdc (ok 2 (by decide)), nI_clamp (by omega), show nI (5 * W.n) + (3 : Int32) = nI (5 * W.n + 3) from nI_add _ 3, q_gdc (ok 3 (by decide)), nI_clamp (by omega), show nI (5 * W.n) + (4 : Int32) = nI (5 * W.n + 4) from nI_add _ 4, q_gdc (ok 4 (by decide)), nI_clamp (by omega), hM3, z6, nI_1, gI_same, nI_pred]
      unfold fX7_sight
      rw [e_is, q_bis, bi_if, if_pos c1, e_isStep7, q_bis, bi_if, if_pos c2, e_is, q_bis, bi_if, if_pos c3.1, e_is, q_bis, bi_if, if_pos c3.2.1, b52]
      by_cases q : v3 = 0
      · rw [if_pos q, if_neg (fun q2 => c3.2.2 ⟨q, q2⟩)]
      · rw [if_neg q]
    · rw [gI_k _ _ _ _ hq, a3.I (by omega)]
    · rw [gI_a _ _ _ _ (by omega)]
      unfold sgU
      by_cases q : i = W.n
      · rw [if_pos q, q]; exact g3 k hk
      · rw [if_neg q, g3o _ (by omega)]; exact ng.2.2 i (by omega) k hk
  · refine ⟨-1, M, M, W, ?_, ?_, h⟩
    · unfold fX6_sight fX6_sight_b49
      rw [q_gdk hz.1, hz.2.1.2.2.1, q_bis, q_gdk hz.2.2.2.2.1.1, hz.2.2.2.2.1.2, hg.2.1, e_isWithin, q_bis, bi_if, e_isStep, q_bis, bi_if, e_isDir, q_bis, bi_if, e_isWithin, q_bis, bi_if]
      by_cases c0 : nI 12 ≤ nI W.n
      · rw [if_pos c0]
      · rw [if_neg c0]
        rw [nI_leI (by omega) (by omega)] at c0
        by_cases c1 : (0 : Int32) ≤ v1 ∧ v1 ≤ 2
        · rw [if_pos c1]
          by_cases c2 : (-300 : Int32) ≤ v2 ∧ v2 ≤ 300
          · rw [if_pos c2]
            by_cases c3 : ((-1000 : Int32) ≤ v3 ∧ v3 ≤ 1000) ∧ ((-1000 : Int32) ≤ v4 ∧ v4 ≤ 1000) ∧ ¬ (v3 = 0 ∧ v4 = 0)
            · rw [if_pos c3, if_neg (fun c5 => hc ⟨by omega, c1, c2, c3, c5⟩)]
            · rw [if_neg c3]
          · rw [if_neg c2]
        · rw [if_neg c1]
    · unfold fX7_sight fX7_sight_b73
      rw [e_is, q_bis, bi_if, e_isStep7, q_bis, bi_if, e_is, q_bis, bi_if, e_is, q_bis, bi_if]
      by_cases c1 : (0 : Int32) ≤ v1 ∧ v1 ≤ 2
      · rw [if_pos c1]
        by_cases c2 : (-300 : Int32) ≤ v2 ∧ v2 ≤ 300
        · rw [if_pos c2]
          by_cases c3 : (-1000 : Int32) ≤ v3 ∧ v3 ≤ 1000
          · rw [if_pos c3]
            by_cases c4 : (-1000 : Int32) ≤ v4 ∧ v4 ≤ 1000
            · rw [if_pos c4]
              have b52 : ¬ (v3 = 0 ∧ v4 = 0) → fX7_sight_b52 (z + 35) v1 v2 v3 v4 v5 Z M = some (-1, M) := by
                intro c6
                unfold fX7_sight_b52 fX7_sight_b73
                rw [e_is, q_bis, bi_if]
                by_cases c5 : (0 : Int32) ≤ v5 ∧ v5 ≤ 1000
                · rw [if_pos c5, q_gdk mz.1, mg.2.1, if_pos]
                  have : ¬ W.n < 12 := fun c0 => hc ⟨c0, c1, c2, ⟨c3, c4, c6⟩, c5⟩
                  rw [show W.n = 12 by omega]
                  rfl
                · rw [if_neg c5]
              by_cases q : v3 = 0
              · rw [if_pos q]
                by_cases q2 : v4 = 0
                · rw [if_pos q2]
                · rw [if_neg q2, b52 (fun e => q2 e.2)]
              · rw [if_neg q, b52 (fun e => q e.1)]
            · rw [if_neg c4]
          · rw [if_neg c3]
        · rw [if_neg c2]
      · rw [if_neg c1]
