theorem gd_ok {gF gB v : Int32} (h1 : 1 ≤ gF.toInt ∧ gF.toInt ≤ 20000) (h2 : 1 ≤ gB.toInt ∧ gB.toInt ≤ 2000) (h3 : 0 ≤ v.toInt ∧ v.toInt ≤ 9) : (0 ≤ (gF + gB * v).toInt ∧ (gF + gB * v).toInt ≤ 40000) ∧ (gF + gB * v).toInt64 = gF.toInt64 + gB.toInt64 * v.toInt64 := by
  have hm : 0 ≤ gB.toInt * v.toInt ∧ gB.toInt * v.toInt ≤ 18000 := by
    refine ⟨Int.mul_nonneg (by omega) (by omega), ?_⟩
    have : gB.toInt * v.toInt ≤ 2000 * 9 := Int.mul_le_mul (by omega) (by omega) (by omega) (by omega)
    omega
  have e1 : (gB * v).toInt = gB.toInt * v.toInt := by rw [Int32.toInt_mul, l_bm32 (by omega) (by omega)]
  have e2 : (gF + gB * v).toInt = gF.toInt + gB.toInt * v.toInt := by rw [Int32.toInt_add, e1, l_bm32 (by omega) (by omega)]
  refine ⟨by omega, ?_⟩
  rw [i64_add (by omega) (by omega)]
  congr 1
  refine l_eq ?_
  rw [l_64, e1, tI_mul (by rw [l_64, l_64]; omega) (by rw [l_64, l_64]; omega), l_64, l_64]
/-- what base and grid may be -/
def okB (n : Nat) (sg : Nat → Nat → Int32) (f1 f2 : Nat) : Prop := f1 < n ∧ f2 < n ∧ (∀ i, i < n → okS1 (sg i)) ∧ sg f1 0 = 0 ∧ sg f2 0 = 0 ∧ (sg f1 1).toInt < (sg f2 1).toInt
def okG (gF gB gN : Int32) : Prop := (1 ≤ gF.toInt ∧ gF.toInt ≤ 20000) ∧ (1 ≤ gB.toInt ∧ gB.toInt ≤ 2000) ∧ (1 ≤ gN.toInt ∧ gN.toInt ≤ 10)
theorem e_gd {Z : q_Z} {M : q_C} {z : Nat} {gF gB : Int32} (hz : zK Z z = 16) (h6 : gI M z 6 = gF) (h7 : gI M z 7 = gB) (v : Int32) : fX6_gridDistance z v Z M = some (gF + gB * v) := by
  unfold fX6_gridDistance
  rw [q_gdk hz, h6, h7]
theorem e_aim {Z : q_Z} {M : q_C} {z n f1 f2 : Nat} {S : q_SK} {sg : Nat → Nat → Int32} {gF gB gN i j : Int32} (hz : zB Z M z) (hS : B_sk M (z + 1) S) (hk : okSK S) (hg : B_sg M z n sg) (hb : okB n sg f1 f2) (hG : okG gF gB gN) (e4 : gI M z 4 = nI f1) (e5 : gI M z 5 = nI f2) (e6 : gI M z 6 = gF) (e7 : gI M z 7 = gB) (hi : 0 ≤ i.toInt ∧ i.toInt ≤ 9) (hj : 0 ≤ j.toInt ∧ j.toInt ≤ 9) :
    ∃ (r : Int32) (M' : q_C), fX6_aim z i j Z M = some (r, M') ∧ amv z M M' ∧
      ((r = 0 ∧ TT S (sg f1 1).toInt (wayM S (sg f1) (sg f2) (gF.toInt64 + gB.toInt64 * i.toInt64) (gF.toInt64 + gB.toInt64 * j.toInt64)) (sg f2 1).toInt = none) ∨
       (r = 1 ∧ ∃ x y u v : Int32, wayM S (sg f1) (sg f2) (gF.toInt64 + gB.toInt64 * i.toInt64) (gF.toInt64 + gB.toInt64 * j.toInt64) = (x.toInt64, y.toInt64, u.toInt64, v.toInt64) ∧ wst M' (z + 18) i j x y u v (sg f1 1) ∧ ¬ lost x.toInt64 y.toInt64)) := by
  obtain ⟨hf1, hf2, ho, k1, k2, h12⟩ := hb
  obtain ⟨gd1, gd2⟩ := gd_ok (v := i) hG.1 hG.2.1 hi
  obtain ⟨gd3, gd4⟩ := gd_ok (v := j) hG.1 hG.2.1 hj
  have o1 := ho f1 hf1
  have o2 := ho f2 hf2
  obtain ⟨p1, p2⟩ := cpx_ok o1 hk.1 gd1
  obtain ⟨p3, p4⟩ := cpy_ok o1 hk.1 gd1
  obtain ⟨p5, p6⟩ := cpx_ok o2 hk.1 gd3
  obtain ⟨p7, p8⟩ := cpy_ok o2 hk.1 gd3
  rw [gd2] at p1 p3
  rw [gd4] at p5 p7
  have r1 := o1.2.1
  have r2 := o2.2.1
  have hs1 : sg f1 1 = sp (sg f1 1).toInt := sp_of _
  have hs2 : sg f2 1 = sp (sg f2 1).toInt := sp_of _
  have hn := hg.1
  have z23 : ∀ q, q < 12 → zK Z (z + 23 + q) = 12 := fun q hq => (hz.2.2.2.2.2.2.2.2 q hq).2
  have z18 := hz.2.2.2.2.2.2.1.2.1
  have z13 := hz.2.2.1.1
  have z14 := hz.2.2.1.2.2.2.1.1
  have s1 := fun k hk => hg.2.2 f1 hf1 k hk
  have s2 := fun k hk => hg.2.2 f2 hf2 k hk
  have hlt : sg f1 1 < sg f2 1 := by rw [Int32.lt_iff_toInt_lt]; exact h12
  have hd32 : ¬ sg f2 1 - sg f1 1 = 0 := by
    intro q
    have e : (sg f2 1 - sg f1 1).toInt = (sg f2 1).toInt - (sg f1 1).toInt := by rw [Int32.toInt_sub]; exact l_bm32 (by omega) (by omega)
    rw [q] at e
    have : (0 : Int32).toInt = 0 := rfl
    omega
  have hdm : sg f2 1 - sg f1 1 ≠ -1 := by
    intro q
    have e : (sg f2 1 - sg f1 1).toInt = (sg f2 1).toInt - (sg f1 1).toInt := by rw [Int32.toInt_sub]; exact l_bm32 (by omega) (by omega)
    rw [q] at e
    have : (-1 : Int32).toInt = -1 := by decide
    omega
  unfold fX6_aim
  rw [q_gdk hz.1, e4, e5, e_sightOf hz hg hf1, q_bis, e_sightOf hz hg hf2, q_bis, q_ons, q_ons, q_gdk (z23 f2 (by omega)), q_gdk (z23 f1 (by omega)), s1 1 (by decide), s2 1 (by decide), if_pos hlt]
  simp only [q_nm]
  rw [hz.2.1.1, q_bis, q_gdk z13, hz.2.2.1.2.1, q_bis, q_gdk z14, e_xAt hz.2.2.1.2.2.2.1 hS.1, q_bis, e_gd hz.1 e6 e7, q_bis, s2 2 (by decide), e_part (z23 f2 (by omega)) s2 o2, q_bis]
  rw [q_bis, q_gdk z13, hz.2.2.1.2.1, q_bis, q_gdk z14, e_yAt hz.2.2.1.2.2.2.1 hS.1, q_bis, q_bis, s2 3 (by decide), e_part (z23 f2 (by omega)) s2 o2, q_bis]
  have c2x : tpx S.1 (sg f2 1) + ((sg f2 2).toInt64 * (gF + gB * j).toInt64 / bpr (sg f2)).toInt32 = cpx S.1 (sg f2) (gF + gB * j) := rfl
  have c2y : tpy S.1 (sg f2 1) + ((sg f2 3).toInt64 * (gF + gB * j).toInt64 / bpr (sg f2)).toInt32 = cpy S.1 (sg f2) (gF + gB * j) := rfl
  have c1x : tpx S.1 (sg f1 1) + ((sg f1 2).toInt64 * (gF + gB * i).toInt64 / bpr (sg f1)).toInt32 = cpx S.1 (sg f1) (gF + gB * i) := rfl
  have c1y : tpy S.1 (sg f1 1) + ((sg f1 3).toInt64 * (gF + gB * i).toInt64 / bpr (sg f1)).toInt32 = cpy S.1 (sg f1) (gF + gB * i) := rfl
  rw [c2x, c2y]
  generalize hEX : cpx S.1 (sg f2) (gF + gB * j) = EX at *
  generalize hEY : cpy S.1 (sg f2) (gF + gB * j) = EY at *
  -- the aimed way is written
  rw [hz.2.1.2.2.2.2.2.1, q_bis, q_gdk z18]
  generalize hM1 : sI M (z + 18) 0 i = M1
  have a1 : amv z M M1 := by rw [← hM1]; exact amv.rf.sI _ _
  rw [(hz.mv a1.2).2.1.2.2.2.2.2.1, q_bis, q_gdk z18]
  generalize hM2 : sI M1 (z + 18) 1 j = M2
  have a2 : amv z M M2 := by rw [← hM2]; exact a1.sI _ _
  rw [(hz.mv a2.2).2.1.2.2.2.2.2.1, q_bis, q_gdk z18, (a2.sg hg).2.2 f1 hf1 1 (by decide)]
  generalize hM3 : sI M2 (z + 18) 6 (sg f1 1) = M3
  have a3 : amv z M M3 := by rw [← hM3]; exact a2.sI _ _
  have hz3 := hz.mv a3.2
  have s3 := fun k hk => (a3.sg hg).2.2 f1 hf1 k hk
  have g3 : ∀ k, gI M3 z k = gI M z k := fun k => a3.1.I (by omega) k
  rw [hz3.2.1.2.2.2.2.2.1, q_bis, hz3.2.1.1, q_bis, q_gdk z13, hz3.2.2.1.2.1, q_bis, q_gdk z14, s3 1 (by decide), e_xAt hz3.2.2.1.2.2.2.1 (a3.sk hS).1, q_bis, e_gd (gF := gF) (gB := gB) hz.1 (by rw [g3]; exact e6) (by rw [g3]; exact e7), q_bis, s3 2 (by decide), e_part (z23 f1 (by omega)) s3 o1, q_bis, q_gdk z18, c1x]
  generalize hPX : cpx S.1 (sg f1) (gF + gB * i) = PX at *
  generalize hM4 : sI M3 (z + 18) 2 PX = M4
  have a4 : amv z M M4 := by rw [← hM4]; exact a3.sI _ _
  have hz4 := hz.mv a4.2
  have s4 := fun k hk => (a4.sg hg).2.2 f1 hf1 k hk
  have g4 : ∀ k, gI M4 z k = gI M z k := fun k => a4.1.I (by omega) k
  rw [hz4.2.1.2.2.2.2.2.1, q_bis, hz4.2.1.1, q_bis, q_gdk z13, hz4.2.2.1.2.1, q_bis, q_gdk z14, s4 1 (by decide), e_yAt hz4.2.2.1.2.2.2.1 (a4.sk hS).1, q_bis, e_gd (gF := gF) (gB := gB) hz.1 (by rw [g4]; exact e6) (by rw [g4]; exact e7), q_bis, s4 3 (by decide), e_part (z23 f1 (by omega)) s4 o1, q_bis, q_gdk z18, c1y]
  generalize hPY : cpy S.1 (sg f1) (gF + gB * i) = PY at *
  generalize hM5 : sI M4 (z + 18) 3 PY = M5
  have a5 : amv z M M5 := by rw [← hM5]; exact a4.sI _ _
  have v52 : gI M5 (z + 18) 2 = PX := by rw [← hM5, gI_k _ _ _ _ (by decide), ← hM4, gI_same]
  have v53 : gI M5 (z + 18) 3 = PY := by rw [← hM5, gI_same]
  rw [(hz.mv a5.2).2.1.2.2.2.2.2.1, q_bis, q_bis, q_gdk z18, q_gdc (by simp [hd32]), q_gdk z18, v52]
  generalize hU : (EX - PX) / (sg f2 1 - sg f1 1) = U
  generalize hM6 : sI M5 (z + 18) 4 U = M6
  have a6 : amv z M M6 := by rw [← hM6]; exact a5.sI _ _
  have v63 : gI M6 (z + 18) 3 = PY := by rw [← hM6, gI_k _ _ _ _ (by decide)]; exact v53
  rw [(hz.mv a6.2).2.1.2.2.2.2.2.1, q_bis, q_bis, q_gdk z18, q_gdc (by simp [hd32]), q_gdk z18, v63]
  generalize hV : (EY - PY) / (sg f2 1 - sg f1 1) = V
  generalize hM7 : sI M6 (z + 18) 5 V = M7
  have a7 : amv z M M7 := by rw [← hM7]; exact a6.sI _ _
  have hw : wst M7 (z + 18) i j PX PY U V (sg f1 1) := by
    refine ⟨?_, ?_, ?_, ?_, ?_, ?_, ?_⟩
    · rw [← hM7, gI_k _ _ _ _ (by decide), ← hM6, gI_k _ _ _ _ (by decide), ← hM5, gI_k _ _ _ _ (by decide), ← hM4, gI_k _ _ _ _ (by decide), ← hM3, gI_k _ _ _ _ (by decide), ← hM2, gI_k _ _ _ _ (by decide), ← hM1, gI_same]
    · rw [← hM7, gI_k _ _ _ _ (by decide), ← hM6, gI_k _ _ _ _ (by decide), ← hM5, gI_k _ _ _ _ (by decide), ← hM4, gI_k _ _ _ _ (by decide), ← hM3, gI_k _ _ _ _ (by decide), ← hM2, gI_same]
    · rw [← hM7, gI_k _ _ _ _ (by decide), ← hM6, gI_k _ _ _ _ (by decide)]; exact v52
    · rw [← hM7, gI_k _ _ _ _ (by decide)]; exact v63
    · rw [← hM7, gI_k _ _ _ _ (by decide), ← hM6, gI_same]
    · rw [← hM7, gI_same]
    · rw [← hM7, gI_k _ _ _ _ (by decide), ← hM6, gI_k _ _ _ _ (by decide), ← hM5, gI_k _ _ _ _ (by decide), ← hM4, gI_k _ _ _ _ (by decide), ← hM3, gI_same]
  have bU : -200000 ≤ U.toInt ∧ U.toInt ≤ 200000 := by
    have e : U.toInt = (EX - PX).toInt.tdiv (sg f2 1 - sg f1 1).toInt := by rw [← hU]; exact Int32.toInt_div_of_ne_right _ _ hdm
    have e2 : (EX - PX).toInt = EX.toInt - PX.toInt := by rw [Int32.toInt_sub]; exact l_bm32 (by omega) (by omega)
    have h := Int.natAbs_tdiv_le_natAbs (EX - PX).toInt (sg f2 1 - sg f1 1).toInt
    omega
  have bV : -200000 ≤ V.toInt ∧ V.toInt ≤ 200000 := by
    have e : V.toInt = (EY - PY).toInt.tdiv (sg f2 1 - sg f1 1).toInt := by rw [← hV]; exact Int32.toInt_div_of_ne_right _ _ hdm
    have e2 : (EY - PY).toInt = EY.toInt - PY.toInt := by rw [Int32.toInt_sub]; exact l_bm32 (by omega) (by omega)
    have h := Int.natAbs_tdiv_le_natAbs (EY - PY).toInt (sg f2 1 - sg f1 1).toInt
    omega
  have eU : U.toInt64 = (EX.toInt64 - PX.toInt64) / (sg f2 1 - sg f1 1).toInt64 := by rw [← hU, i64_div hdm, i64_sub (by omega) (by omega)]
  have eV : V.toInt64 = (EY.toInt64 - PY.toInt64) / (sg f2 1 - sg f1 1).toInt64 := by rw [← hV, i64_div hdm, i64_sub (by omega) (by omega)]
  rw [hs1] at hw
  obtain ⟨o, q1, q2⟩ := e_aimL (t0 := (sg f1 1).toInt) (t1 := (sg f2 1).toInt) (ex := EX) (ey := EY) hk r1.1 r2.2 h12 hf2 hs2 p6 p8 3 M7 U V q_FU (by omega) (hz.mv a7.2) (a7.sk hS) (a7.sg hg) hw (by omega) (by omega) (by decide)
  rw [← hs1, ← hs2, show nI (3 - 3) = (0 : Int32) from rfl] at q1
  rw [q1, q_bis]
  have hway : wayM S (sg f1) (sg f2) (gF.toInt64 + gB.toInt64 * i.toInt64) (gF.toInt64 + gB.toInt64 * j.toInt64) = (PX.toInt64, PY.toInt64, (aimM S (sg f1 1).toInt (sg f2 1).toInt PX.toInt64 PY.toInt64 EX.toInt64 EY.toInt64 3 (U.toInt64, V.toInt64)).1, (aimM S (sg f1 1).toInt (sg f2 1).toInt PX.toInt64 PY.toInt64 EX.toInt64 EY.toInt64 3 (U.toInt64, V.toInt64)).2) := by
    unfold wayM
    rw [← p1, ← p3, ← p5, ← p7, ← eU, ← eV]
  rcases q2 with ⟨w1, M', w2, w3⟩ | ⟨M', u', v', w1, w2, w3, w4⟩
  · subst w2
    rw [q_sml, q_gdc (by decide)]
    refine ⟨0, M', rfl, a7.tr w3, Or.inl ⟨rfl, ?_⟩⟩
    rw [hway]
    exact aim_none 3 _ w1
  · subst w2
    rw [q_smr, q_gdc (by decide)]
    refine ⟨1, M', rfl, a7.tr w3, Or.inr ⟨rfl, PX, PY, u', v', ?_, by rw [hs1]; exact w4, ?_⟩⟩
    · rw [hway, aim_some 3 _ _ w1]
    · intro hl
      have hn0 : TT S (sg f1 1).toInt (PX.toInt64, PY.toInt64, U.toInt64, V.toInt64) (sg f1 1).toInt = none := by rw [TT_0, if_pos hl]
      have := TT_nF (Int.le_refl _) hn0 ((sg f2 1).toInt - (sg f1 1).toInt).toNat
      rw [show (sg f1 1).toInt + ((((sg f2 1).toInt - (sg f1 1).toInt).toNat : Nat) : Int) = (sg f2 1).toInt by omega] at this
      have ha : aim1 S (sg f1 1).toInt (sg f2 1).toInt PX.toInt64 PY.toInt64 EX.toInt64 EY.toInt64 (U.toInt64, V.toInt64) = none := by
        unfold aim1
        dsimp only
        rw [this]; rfl
      have w1 : (aim1 S (sg f1 1).toInt (sg f2 1).toInt PX.toInt64 PY.toInt64 EX.toInt64 EY.toInt64 (U.toInt64, V.toInt64)).bind _ = _ := w1
      rw [ha] at w1
      cases w1
