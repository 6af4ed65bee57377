/-! the class lays a way -/
def wst (M : q_C) (w : Nat) (i j x y u v t : Int32) : Prop := gI M w 0 = i ∧ gI M w 1 = j ∧ gI M w 2 = x ∧ gI M w 3 = y ∧ gI M w 4 = u ∧ gI M w 5 = v ∧ gI M w 6 = t
theorem wst.ag {P : Nat → Prop} {M M' : q_C} {w : Nat} {i j x y u v t : Int32} (h : wst M w i j x y u v t) (ha : q_ag P M M') (hw : P w) : wst M' w i j x y u v t := by
  unfold wst at h ⊢
  rw [ha.I hw, ha.I hw, ha.I hw, ha.I hw, ha.I hw, ha.I hw, ha.I hw]
  exact h
theorem e_begin {Z : q_Z} {M : q_C} {h w : Nat} {i j x y u v t : Int32} (hz : zK Z h = 10) (hw : zK Z w = 15) (hne : w ≠ h) (hs : wst M w i j x y u v t) :
    ∃ M', fX0_begin h (some w) Z M = some M' ∧ cst M' h (x.toInt64, y.toInt64, u.toInt64, v.toInt64) t (bi (lost x.toInt64 y.toInt64)) ∧ cmv h M M' := by
  obtain ⟨s0, s1, s2, s3, s4, s5, s6⟩ := hs
  unfold fX0_begin
  rw [q_bis, q_gdk hw, q_gdk hz]
  simp only [q_nm]
  simp only [gI_sJ]
  rw [s2, s3, s4, s5, s6]
  generalize hM8 : sJ (sJ (sJ (sJ M h 0 x.toInt64) h 1 y.toInt64) h 2 u.toInt64) h 3 v.toInt64 = M8
  have m8 : cmv h M M8 := by rw [← hM8]; exact (((cmv.rf.sJ _ _).sJ _ _).sJ _ _).sJ _ _
  have a0 : gJ M8 h 0 = x.toInt64 := by rw [← hM8, gJ_k _ _ _ _ (by decide), gJ_k _ _ _ _ (by decide), gJ_k _ _ _ _ (by decide), gJ_same]
  have a1 : gJ M8 h 1 = y.toInt64 := by rw [← hM8, gJ_k _ _ _ _ (by decide), gJ_k _ _ _ _ (by decide), gJ_same]
  have a2 : gJ M8 h 2 = u.toInt64 := by rw [← hM8, gJ_k _ _ _ _ (by decide), gJ_same]
  have a3 : gJ M8 h 3 = v.toInt64 := by rw [← hM8, gJ_same]
  generalize hM9 : sI M8 h 4 t = M9
  have m9 : cmv h M M9 := by rw [← hM9]; exact m8.sI _ _
  have b0 : gJ M9 h 0 = x.toInt64 := by rw [← hM9, gJ_sI]; exact a0
  have b1 : gJ M9 h 1 = y.toInt64 := by rw [← hM9, gJ_sI]; exact a1
  have b2 : gJ M9 h 2 = u.toInt64 := by rw [← hM9, gJ_sI]; exact a2
  have b3 : gJ M9 h 3 = v.toInt64 := by rw [← hM9, gJ_sI]; exact a3
  have b4 : gI M9 h 4 = t := by rw [← hM9, gI_same]
  rw [e_isOutside hz, q_bis, bi_gd, b0, b1]
  refine ⟨sI M9 h 5 (bi (lost x.toInt64 y.toInt64)), rfl, ⟨?_, ?_, ?_, ?_, ?_, gI_same _ _ _ _⟩, m9.sI _ _⟩
  · rw [gJ_sI]; exact b0
  · rw [gJ_sI]; exact b1
  · rw [gJ_sI]; exact b2
  · rw [gJ_sI]; exact b3
  · rw [gI_k _ _ _ _ (by decide)]; exact b4
/-- comet and aimed way alone have changed -/
def amv (z : Nat) (M M' : q_C) : Prop := q_ag (fun a => a ≠ z + 17 ∧ a ≠ z + 18) M M' ∧ M'.2.2 = M.2.2
theorem amv.rf {z : Nat} {M : q_C} : amv z M M := ⟨q_ag.rf, rfl⟩
theorem amv.tr {z : Nat} {M M1 M2 : q_C} (a : amv z M M1) (b : amv z M1 M2) : amv z M M2 := ⟨a.1.tr b.1, b.2.trans a.2⟩
theorem cmv.a {z : Nat} {M M' : q_C} (a : cmv (z + 17) M M') : amv z M M' := ⟨a.1.wk (fun _ h => h.1), a.2⟩
theorem amv.sI {z : Nat} {M M1 : q_C} (a : amv z M M1) (k : Nat) (v : Int32) : amv z M (sI M1 (z + 18) k v) := ⟨a.1.sI (fun q => q.2 rfl) k v, a.2⟩
theorem amv.sk {z : Nat} {M M' : q_C} {S : q_SK} (a : amv z M M') (h : B_sk M (z + 1) S) : B_sk M' (z + 1) S := h.ag a.1 (fun i hi => by omega)
theorem amv.sg {z n : Nat} {M M' : q_C} {sg : Nat → Nat → Int32} (a : amv z M M') (h : B_sg M z n sg) : B_sg M' z n sg := h.ag a.1 (by omega) (fun i hi => by omega)
theorem zB.go {Z : q_Z} {M : q_C} {z : Nat} {S : q_SK} (h : zB Z M z) (hS : B_sk M (z + 1) S) (hk : okSK S) : goW Z M (z + 17) (z + 1) S := ⟨h.2.2.2.2.2.2.1.1, h.2.2.1, hS, hk, fun i hi => by omega⟩
theorem nA_dv {a b : Int64} (h : b ≠ -1) : nA (a / b) ≤ nA a := by rw [nA_div h]; exact Nat.div_le_self _ _
/-- n aimings left -/
theorem e_aimL {Z : q_Z} {z n0 f2 : Nat} {S : q_SK} {sg : Nat → Nat → Int32} {t0 t1 : Int} {i j px py ex ey : Int32} (hk : okSK S) (h0 : -300 ≤ t0) (h1 : t1 ≤ 300) (h01 : t0 < t1) (hf2 : f2 < n0) (hs2 : sg f2 1 = sp t1) (bx : -60000 ≤ ex.toInt ∧ ex.toInt ≤ 60000) (by_ : -60000 ≤ ey.toInt ∧ ey.toInt ≤ 60000) : ∀ (n : Nat) (M : q_C) (u v : Int32) (f : Nat), n ≤ 3 → zB Z M z → B_sk M (z + 1) S → B_sg M z n0 sg → wst M (z + 18) i j px py u v (sp t0) → (-200000 - (3 - n : Nat) * 200000 ≤ u.toInt ∧ u.toInt ≤ 200000 + (3 - n : Nat) * 200000) → (-200000 - (3 - n : Nat) * 200000 ≤ v.toInt ∧ v.toInt ≤ 200000 + (3 - n : Nat) * 200000) → n + 1 < f →
    ∃ o : q_C ⊕ q_C, q_it (fun x : Int32 × q_C => fX6_aim_L260 z (some (z + 23 + f2)) (sp t1 - sp t0) ex ey x.1 Z x.2) f (nI (3 - n), M) = some o ∧
      ((aimR S t0 t1 px.toInt64 py.toInt64 ex.toInt64 ey.toInt64 n (u.toInt64, v.toInt64) = none ∧ ∃ M', o = .inl M' ∧ amv z M M') ∨
       (∃ (M' : q_C) (u' v' : Int32), aimR S t0 t1 px.toInt64 py.toInt64 ex.toInt64 ey.toInt64 n (u.toInt64, v.toInt64) = some (u'.toInt64, v'.toInt64) ∧ o = .inr M' ∧ amv z M M' ∧ wst M' (z + 18) i j px py u' v' (sp t0))) := by
  intro n
  induction n with
  | zero =>
    intro M u v f hn hz hS hg hw bu bv hf
    obtain ⟨f, rfl⟩ : ∃ y, f = y + 1 := ⟨f - 1, by omega⟩
    refine ⟨.inr M, q_it_x ?_, Or.inr ⟨M, u, v, rfl, rfl, amv.rf, hw⟩⟩
    show fX6_aim_L260 z (some (z + 23 + f2)) (sp t1 - sp t0) ex ey (nI 3) Z M = _
    unfold fX6_aim_L260
    rw [if_pos (by decide)]
  | succ n ih =>
    intro M u v f hn hz hS hg hw bu bv hf
    obtain ⟨f, rfl⟩ : ∃ y, f = y + 1 := ⟨f - 1, by omega⟩
    have hc3 : ¬ (3 : Int32) ≤ nI (3 - (n + 1)) := fun q => by
      have := (nI_leI (a := 3) (b := 3 - (n + 1)) (by decide) (by omega)).mp q
      omega
    have z17 := hz.2.2.2.2.2.2.1.1
    have z18 := hz.2.2.2.2.2.2.1.2.1
    obtain ⟨M1, b1, b2, b3⟩ := e_begin z17 z18 (by omega) hw
    have a1 := b3.a
    have hz1 := hz.mv a1.2
    have hg1 := a1.sg hg
    have hS1 := a1.sk hS
    have hst : gI M1 (z + 23 + f2) 1 = sp t1 := by rw [hg1.2.2 f2 hf2 1 (by decide)]; exact hs2
    have zs : zK Z (z + 23 + f2) = 12 := (hz.2.2.2.2.2.2.2.2 f2 (by have := hg.1; omega)).2
    -- the comet's going
    have hgo : ∃ M2, fX0_go (z + 17) (some (z + 1)) (sp t1) Z M1 = some M2 ∧ cmv (z + 17) M1 M2 ∧ ((∃ c, TT S t0 (px.toInt64, py.toInt64, u.toInt64, v.toInt64) t1 = some c ∧ cst M2 (z + 17) c (sp t1) 0) ∨ (TT S t0 (px.toInt64, py.toInt64, u.toInt64, v.toInt64) t1 = none ∧ gI M2 (z + 17) 5 = 1)) := by
      by_cases hl : lost px.toInt64 py.toInt64
      · rw [bi_t hl] at b2
        refine ⟨M1, e_go1 z17 b2.2.2.2.2.2, cmv.rf, Or.inr ⟨?_, b2.2.2.2.2.2⟩⟩
        have hn0 : TT S t0 (px.toInt64, py.toInt64, u.toInt64, v.toInt64) t0 = none := by rw [TT_0, if_pos hl]
        have := TT_nF (Int.le_refl t0) hn0 (t1 - t0).toNat
        rw [show t0 + (((t1 - t0).toNat : Nat) : Int) = t1 by omega] at this
        exact this
      · rw [bi_f hl] at b2
        have hT : TT S t0 (px.toInt64, py.toInt64, u.toInt64, v.toInt64) t0 = some (px.toInt64, py.toInt64, u.toInt64, v.toInt64) := by rw [TT_0, if_neg hl]
        obtain ⟨M2, g1, g2, g3⟩ := e_go (t' := t1) (hz1.go hS1 hk) hT b2 (by omega) (by omega) (by omega) (by omega)
        refine ⟨M2, g1, g2, ?_⟩
        rcases g3 with q | ⟨q1, q, d, e, hd, hq⟩
        · exact Or.inl q
        · refine Or.inr ⟨q1, ?_⟩
          rcases hq with ⟨_, _, q2, _⟩ | ⟨_, _, q2, _⟩
          · exact q2.2.2.2.2.2
          · exact q2.2.2.2.2.2
    obtain ⟨M2, g1, g2, g3⟩ := hgo
    have a2 := a1.tr g2.a
    have hz2 := hz.mv a2.2
    have hw2 : wst M2 (z + 18) i j px py u v (sp t0) := (hw.ag b3.1 (by omega)).ag g2.1 (by omega)
    have pre : fX6_aim_L260 z (some (z + 23 + f2)) (sp t1 - sp t0) ex ey (nI (3 - (n + 1))) Z M = (if gI M2 (z + 17) 5 = 0 then
        q_gd (!(decide ((sp t1 - sp t0).toInt64 = 0))) (
          q_nm (sI M2 (z + 18) 4 (u + (((ex.toInt64 - (gJ M2 (z + 17) 0)) / (sp t1 - sp t0).toInt64).toInt32))) fun M_131 =>
          Option.bind (gR M_131 z 13) fun a_132 => q_gd (zK Z a_132 == 15) <| Option.bind (gR M_131 z 12) fun a_135 => q_gd (zK Z a_135 == 10) <|
          q_gd (!(decide ((sp t1 - sp t0).toInt64 = 0))) <|
          q_nm (sI M_131 a_132 5 ((gI M_131 a_132 5) + (((ey.toInt64 - (gJ M_131 a_135 1)) / (sp t1 - sp t0).toInt64).toInt32))) fun M_139 =>
          q_nm (nI (3 - (n + 1)) + (1 : Int32)) fun v8_140 => some (Sum.inl (v8_140, M_139))) else some (Sum.inr (Sum.inl M2))) := by
      rw [fX6_aim_L260]
      rw [if_neg hc3, q_gdk hz.1, hz.2.1.2.2.2.2.1, q_bis, hz.2.1.2.2.2.2.2.1, q_bis, q_gdk z17, b1, q_bis, hz1.2.1.2.2.2.2.1, q_bis, hz1.2.1.1, q_bis, q_bis, q_gdk zs, q_gdk z17, hst, g1, q_bis, hz2.2.1.2.2.2.2.1, q_bis, q_gdk z17, hz2.2.1.2.2.2.2.2.1, q_bis, q_gdk z18, q_bis, q_gdk z17, hw2.2.2.2.2.1]
    have hd := l_dn (by omega) (by omega) h01
    have hdm : (sp t1 - sp t0).toInt64 ≠ -1 := by
      intro q
      have e : ((sp t1 - sp t0).toInt64).toInt = t1 - t0 := by
        rw [l_64, Int32.toInt_sub, sp_T (by omega) (by omega), sp_T (by omega) (by omega)]
        exact l_bm32 (by omega) (by omega)
      rw [q] at e
      have : (-1 : Int64).toInt = -1 := by decide
      omega
    rcases g3 with ⟨c, d1, d2⟩ | ⟨d1, d2⟩
    · obtain ⟨cb1, cb2⟩ := lost_b (TT_nl d1)
      -- the bettered speed
      have qx : -170000 ≤ ((ex.toInt64 - c.1) / (sp t1 - sp t0).toInt64).toInt ∧ ((ex.toInt64 - c.1) / (sp t1 - sp t0).toInt64).toInt ≤ 170000 := by
        have h := nA_dv (a := ex.toInt64 - c.1) hdm
        have e : (ex.toInt64 - c.1).toInt = ex.toInt - c.1.toInt := by rw [tI_sub (by rw [l_64]; omega) (by rw [l_64]; omega), l_64]
        unfold nA at h
        rw [e] at h
        omega
      have qy : -170000 ≤ ((ey.toInt64 - c.2.1) / (sp t1 - sp t0).toInt64).toInt ∧ ((ey.toInt64 - c.2.1) / (sp t1 - sp t0).toInt64).toInt ≤ 170000 := by
        have h := nA_dv (a := ey.toInt64 - c.2.1) hdm
        have e : (ey.toInt64 - c.2.1).toInt = ey.toInt - c.2.1.toInt := by rw [tI_sub (by rw [l_64]; omega) (by rw [l_64]; omega), l_64]
        unfold nA at h
        rw [e] at h
        omega
      generalize hqx : (ex.toInt64 - c.1) / (sp t1 - sp t0).toInt64 = X at qx
      generalize hqy : (ey.toInt64 - c.2.1) / (sp t1 - sp t0).toInt64 = Y at qy
      have lx := l_32 (q := X) (by omega) (by omega)
      have ly := l_32 (q := Y) (by omega) (by omega)
      have ex2 : (u + X.toInt32).toInt64 = u.toInt64 + X := by
        rw [i64_add (by omega) (by omega)]
        congr 1
        exact l_eq (by rw [l_64, lx])
      have ey2 : (v + Y.toInt32).toInt64 = v.toInt64 + Y := by
        rw [i64_add (by omega) (by omega)]
        congr 1
        exact l_eq (by rw [l_64, ly])
      have tx2 : (u + X.toInt32).toInt = u.toInt + X.toInt := by rw [Int32.toInt_add, lx, l_bm32 (by omega) (by omega)]
      have ty2 : (v + Y.toInt32).toInt = v.toInt + Y.toInt := by rw [Int32.toInt_add, ly, l_bm32 (by omega) (by omega)]
      rw [d2.2.2.2.2.2, if_pos rfl, q_gdc (by simp [hd]), d2.1, hqx] at pre
      simp only [q_nm] at pre
      generalize hM3 : sI M2 (z + 18) 4 (u + X.toInt32) = M3 at pre
      have a3 : amv z M M3 := by rw [← hM3]; exact a2.sI _ _
      have c17 : gJ M3 (z + 17) 1 = c.2.1 := by rw [← hM3, gJ_sI]; exact d2.2.1
      have v5 : gI M3 (z + 18) 5 = v := by rw [← hM3, gI_k _ _ _ _ (by decide)]; exact hw2.2.2.2.2.2.1
      rw [(hz.mv a3.2).2.1.2.2.2.2.2.1, q_bis, q_gdk z18, (hz.mv a3.2).2.1.2.2.2.2.1, q_bis, q_gdk z17, q_gdc (by simp [hd]), c17, hqy, v5, nI_1, show 3 - (n + 1) + 1 = 3 - n by omega] at pre
      generalize hM4 : sI M3 (z + 18) 5 (v + Y.toInt32) = M4 at pre
      have a4 : amv z M M4 := by rw [← hM4]; exact a3.sI _ _
      have hw4 : wst M4 (z + 18) i j px py (u + X.toInt32) (v + Y.toInt32) (sp t0) := by
        obtain ⟨w0, w1, w2, w3, w4, w5, w6⟩ := hw2
        refine ⟨?_, ?_, ?_, ?_, ?_, ?_, ?_⟩
        · rw [← hM4, gI_k _ _ _ _ (by decide), ← hM3, gI_k _ _ _ _ (by decide)]; exact w0
        · rw [← hM4, gI_k _ _ _ _ (by decide), ← hM3, gI_k _ _ _ _ (by decide)]; exact w1
        · rw [← hM4, gI_k _ _ _ _ (by decide), ← hM3, gI_k _ _ _ _ (by decide)]; exact w2
        · rw [← hM4, gI_k _ _ _ _ (by decide), ← hM3, gI_k _ _ _ _ (by decide)]; exact w3
        · rw [← hM4, gI_k _ _ _ _ (by decide), ← hM3, gI_same]
        · rw [← hM4, gI_same]
        · rw [← hM4, gI_k _ _ _ _ (by decide), ← hM3, gI_k _ _ _ _ (by decide)]; exact w6
      obtain ⟨o, e1, e2⟩ := ih M4 _ _ f (by omega) (hz.mv a4.2) (a4.sk hS) (a4.sg hg) hw4 (by omega) (by omega) (by omega)
      have ha : aim1 S t0 t1 px.toInt64 py.toInt64 ex.toInt64 ey.toInt64 (u.toInt64, v.toInt64) = some ((u + X.toInt32).toInt64, (v + Y.toInt32).toInt64) := by
        unfold aim1
        dsimp only
        rw [d1, ex2, ey2, ← hqx, ← hqy]
        rfl
      have hR : aimR S t0 t1 px.toInt64 py.toInt64 ex.toInt64 ey.toInt64 (n + 1) (u.toInt64, v.toInt64) = aimR S t0 t1 px.toInt64 py.toInt64 ex.toInt64 ey.toInt64 n ((u + X.toInt32).toInt64, (v + Y.toInt32).toInt64) := by
        show (aim1 S t0 t1 px.toInt64 py.toInt64 ex.toInt64 ey.toInt64 (u.toInt64, v.toInt64)).bind _ = _
        rw [ha]; rfl
      refine ⟨o, ?_, ?_⟩
      · rw [q_it_s (y := (nI (3 - n), M4)) pre]
        exact e1
      · rw [hR]
        rcases e2 with ⟨q1, M', q2, q3⟩ | ⟨M', u', v', q1, q2, q3, q4⟩
        · exact Or.inl ⟨q1, M', q2, a4.tr q3⟩
        · exact Or.inr ⟨M', u', v', q1, q2, a4.tr q3, q4⟩
    · rw [d2, if_neg (by decide)] at pre
      refine ⟨.inl M2, q_it_x pre, Or.inl ⟨?_, M2, rfl, a2⟩⟩
      show (aim1 S t0 t1 px.toInt64 py.toInt64 ex.toInt64 ey.toInt64 (u.toInt64, v.toInt64)).bind _ = _
      have : aim1 S t0 t1 px.toInt64 py.toInt64 ex.toInt64 ey.toInt64 (u.toInt64, v.toInt64) = none := by
        unfold aim1
        dsimp only
        rw [d1]; rfl
      rw [this]; rfl
