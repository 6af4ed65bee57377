/-! the class goes from sight to sight -/
theorem e_fitsBut {Z : q_Z} {M : q_C} {z n : Nat} {S : q_SK} {sg : Nat → Nat → Int32} {but : Int32} {t0 : Int} {i j x y u v : Int32} (hz : zB Z M z) (hS : B_sk M (z + 1) S) (hk : okSK S) (hg : B_sg M z n sg) (ho : ∀ i, i < n → okS1 (sg i)) (hw : wst M (z + 18) i j x y u v (sp t0)) (hl : ¬ lost x.toInt64 y.toInt64) (h1 : -300 ≤ t0) (h2 : t0 ≤ 300) :
    ∃ M', fX6_fitsAllBut z but Z M = some (bi (fa sg S.1 (TT S t0 (x.toInt64, y.toInt64, u.toInt64, v.toInt64)) but n = true), M') ∧ cmv (z + 17) M M' := by
  have hn := hg.1
  have z17 := hz.2.2.2.2.2.2.1.1
  have z18 := hz.2.2.2.2.2.2.1.2.1
  have z13 := hz.2.2.1.1
  generalize hc0 : ((x.toInt64, y.toInt64, u.toInt64, v.toInt64) : q_cs) = c0
  have loop : ∀ (d q f : Nat) (M1 : q_C) (t : Int) (c : q_cs), q + d = n → fa sg S.1 (TT S t0 c0) but q = true → d + 1 < f → cmv (z + 17) M M1 → -300 ≤ t → t ≤ 300 → TT S t0 c0 t = some c → cst M1 (z + 17) c (sp t) 0 →
      ∃ M', q_it (fun x : Int32 × q_C => fX6_fitsAllBut_L13 z but x.1 Z x.2) f (nI q, M1) = some (if fa sg S.1 (TT S t0 c0) but n = true then .inr M' else .inl M') ∧ cmv (z + 17) M M' := by
    intro d
    induction d with
    | zero =>
      intro q f M1 t c e1 e2 e3 e4 e5 e6 e7 e8
      obtain ⟨f, rfl⟩ : ∃ y, f = y + 1 := ⟨f - 1, by omega⟩
      obtain rfl : q = n := by omega
      refine ⟨M1, q_it_x ?_, e4⟩
      show fX6_fitsAllBut_L13 z but (nI q) Z M1 = _
      unfold fX6_fitsAllBut_L13
      rw [q_gdk hz.1, (e4.a.sg hg).2.1, if_pos (Int32.le_refl _), if_pos e2]
    | succ d ih =>
      intro q f M1 t c e1 e2 e3 e4 e5 e6 e7 e8
      obtain ⟨f, rfl⟩ : ∃ y, f = y + 1 := ⟨f - 1, by omega⟩
      have hq : q < n := by omega
      have hz1 := hz.mv e4.2
      have hg1 := e4.a.sg hg
      have hS1 := e4.a.sk hS
      have hcmp : ¬ gI M1 z 3 ≤ nI q := by rw [hg1.2.1]; exact nI_ge hq (by omega)
      have zs : zK Z (z + 23 + q) = 12 := (hz.2.2.2.2.2.2.2.2 q (by omega)).2
      have s1 := fun k hk => hg1.2.2 q hq k hk
      have o1 := ho q hq
      have r1 := o1.2.1
      have hs1 : sg q 1 = sp (sg q 1).toInt := sp_of _
      have hfa : fa sg S.1 (TT S t0 c0) but (q + 1) = (decide (nI q = but) || (decide (sg q 0 = 2) || ftb (sg q) S.1 (TT S t0 c0 (sg q 1).toInt))) := by
        show (fa sg S.1 (TT S t0 c0) but q && _) = _
        rw [e2]; rfl
      by_cases q1 : nI q = but
      · have body : fX6_fitsAllBut_L13 z but (nI q) Z M1 = some (.inl (nI (q + 1), M1)) := by
          unfold fX6_fitsAllBut_L13 fX6_fitsAllBut_b102
          rw [q_gdk hz.1, if_neg hcmp, e_sightOf hz1 hg1 hq, q_bis, q_ons, if_pos q1]
          simp only [q_nm]
          rw [nI_1]
        rw [q_it_s (y := (nI (q + 1), M1)) body]
        exact ih (q + 1) f M1 t c (by omega) (by rw [hfa]; simp [q1]) (by omega) e4 e5 e6 e7 e8
      · by_cases q2 : sg q 0 = 2
        · have body : fX6_fitsAllBut_L13 z but (nI q) Z M1 = some (.inl (nI (q + 1), M1)) := by
            unfold fX6_fitsAllBut_L13 fX6_fitsAllBut_b102
            rw [q_gdk hz.1, if_neg hcmp, e_sightOf hz1 hg1 hq, q_bis, q_ons, if_neg q1, q_gdk zs, s1 0 (by decide), if_pos q2]
            simp only [q_nm]
            rw [nI_1]
          rw [q_it_s (y := (nI (q + 1), M1)) body]
          exact ih (q + 1) f M1 t c (by omega) (by rw [hfa]; simp [q2]) (by omega) e4 e5 e6 e7 e8
        · obtain ⟨M2, g1, g2, g3⟩ := e_go (t' := (sg q 1).toInt) (hz1.go hS1 hk) e7 e8 (by omega) (by omega) (by omega) (by omega)
          rw [← hs1] at g1
          have m2 := e4.tr g2
          have hz2 := hz.mv m2.2
          have s2 := fun k hk => (m2.a.sg hg).2.2 q hq k hk
          have fno : ftb (sg q) S.1 (TT S t0 c0 (sg q 1).toInt) = false → fa sg S.1 (TT S t0 c0) but n = false := by
            intro hb
            have := fa_no (j := q + 1) (show fa sg S.1 (TT S t0 c0) but (q + 1) = false by rw [hfa, hb]; simp [q1, q2]) d
            rw [show q + 1 + d = n by omega] at this
            exact this
          have pre : ∀ X : Option ((Int32 × q_C) ⊕ (q_C ⊕ q_C)), (if gI M2 (z + 17) 5 = 0 then
              Option.bind (fX2_takes (z + 23 + q) (some (z + 2)) (gJ M2 (z + 17) 0) (gJ M2 (z + 17) 1) Z M2) fun r_38 =>
              if r_38 = 0 then some (Sum.inr (Sum.inl M2)) else fX6_fitsAllBut_b102 z but (nI q) Z M2
              else some (Sum.inr (Sum.inl M2))) = X → fX6_fitsAllBut_L13 z but (nI q) Z M1 = X := by
            intro X hX
            rw [← hX]
            rw [fX6_fitsAllBut_L13]
            rw [q_gdk hz.1, if_neg hcmp, e_sightOf hz1 hg1 hq, q_bis, q_ons, if_neg q1, q_gdk zs, s1 0 (by decide), if_neg q2, hz1.2.1.2.2.2.2.1, q_bis, hz1.2.1.1, q_bis, q_gdk z17, s1 1 (by decide), g1, q_bis, hz2.2.1.2.2.2.2.1, q_bis, q_gdk z17, hz2.2.1.1, q_bis, q_gdk z13, hz2.2.2.1.2.1, q_bis, q_bis, q_gdk z17, q_bis, q_gdk z17]
          rcases g3 with ⟨c', w1, w2⟩ | ⟨w1, qq, d', e', w2, w3⟩
          · have ht := e_takes (E := S.1) zs s2 hz2.2.2.1.2.2.2.1 (m2.a.sk hS).1 c'.1 c'.2.1
            have hftb : ftb (sg q) S.1 (TT S t0 c0 (sg q 1).toInt) = decide (tkd (sg q) (tkp (sg q) S.1 c'.1) (tkq (sg q) S.1 c'.2.1)) := by rw [w1]; rfl
            by_cases hd : tkd (sg q) (tkp (sg q) S.1 c'.1) (tkq (sg q) S.1 c'.2.1)
            · rw [decide_eq_true hd] at hftb
              have body := pre (some (.inl (nI (q + 1), M2))) (by
                unfold fX6_fitsAllBut_b102
                rw [w2.2.2.2.2.2, if_pos rfl, w2.1, w2.2.1, show z + 2 = z + 1 + 1 from rfl, ht, q_bis, bi_t hd, if_neg (by decide)]
                simp only [q_nm]
                rw [nI_1])
              rw [q_it_s (y := (nI (q + 1), M2)) body]
              exact ih (q + 1) f M2 _ c' (by omega) (by rw [hfa, hftb]; simp) (by omega) m2 r1.1 r1.2 w1 w2
            · rw [decide_eq_false hd] at hftb
              refine ⟨M2, q_it_x (pre _ ?_), m2⟩
              rw [w2.2.2.2.2.2, if_pos rfl, w2.1, w2.2.1, show z + 2 = z + 1 + 1 from rfl, ht, q_bis, bi_f hd, if_pos rfl, if_neg (by rw [fno hftb]; decide)]
          · refine ⟨M2, q_it_x (pre _ ?_), m2⟩
            have h5 : gI M2 (z + 17) 5 = 1 := by
              rcases w3 with ⟨_, _, q2, _⟩ | ⟨_, _, q2, _⟩
              · exact q2.2.2.2.2.2
              · exact q2.2.2.2.2.2
            rw [h5, if_neg (by decide), if_neg (by rw [fno (by rw [w1]; rfl)]; decide)]
  obtain ⟨M1, b1, b2, b3⟩ := e_begin z17 z18 (by omega) hw
  rw [bi_f hl, hc0] at b2
  have hT : TT S t0 c0 t0 = some c0 := by rw [TT_0, if_neg (by rw [← hc0]; exact hl)]
  obtain ⟨M', q1, q2⟩ := loop n 0 q_FU M1 t0 c0 (by omega) rfl (by unfold q_FU; omega) b3 h1 h2 hT b2
  rw [nI_0] at q1
  refine ⟨M', ?_, q2⟩
  unfold fX6_fitsAllBut fX6_fitsAllBut_b100
  rw [q_gdk hz.1, hz.2.1.2.2.2.2.1, q_bis, hz.2.1.2.2.2.2.2.1, q_bis, q_gdk z17, b1, q_bis, q1, q_bis]
  cases hf : fa sg S.1 (TT S t0 c0) but n with
  | true =>
    rw [if_pos rfl, q_smr]
    simp only [q_nm]
    rw [q_gdc (by decide)]
    rfl
  | false =>
    rw [if_neg (by decide), q_sml]
    simp only [q_nm]
    rw [q_gdc (by decide), bi_f (by decide)]
