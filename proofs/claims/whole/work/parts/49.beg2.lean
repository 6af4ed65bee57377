/-- the model's inner loop: from step t of the path on to step t1 -/
theorem e_bl {Z : q_Z} {m : Nat} {S : q_SK} {t0 t1 : Int} {c0 : q_cs} (hk : okSK S) (ht1 : t1 ≤ 1000) (h0 : -1000 ≤ t0) {a3 a5 a7 a9 a13 a15 : Int64} {a11 a18 : Int32} : ∀ (k : Nat) (t : Int) (M : q_C) (c : q_cs) (f : Nat), t + k = t1 → t0 ≤ t → zM Z M m → M_sk M m S → TT S t0 c0 t = some c → mst M m c → k + 1 < f →
    ∃ (r : Int32) (M' : q_C), q_it (fun x : Int32 × Int32 × q_C => fX7_begins_L209 m a3 a5 a7 a9 a11 (sp t1) a13 a15 a18 x.1 x.2.1 Z x.2.2) f (1, sp t, M) = some (r, M') ∧ mmv m M M' ∧ ((∃ c', TT S t0 c0 t1 = some c' ∧ r = 1 ∧ mst M' m c') ∨ (TT S t0 c0 t1 = none ∧ r = 0)) := by
  intro k
  induction k with
  | zero =>
    intro t M c f h1 h2 hz hS hT hc hf
    obtain ⟨f, rfl⟩ : ∃ y, f = y + 1 := ⟨f - 1, by omega⟩
    have e : t = t1 := by omega
    subst e
    refine ⟨1, M, q_it_x ?_, mmv.rf, Or.inl ⟨c, hT, rfl, hc⟩⟩
    show fX7_begins_L209 m a3 a5 a7 a9 a11 (sp t) a13 a15 a18 1 (sp t) Z M = _
    unfold fX7_begins_L209
    rw [if_pos (Int32.le_refl _)]
  | succ k ih =>
    intro t M c f h1 h2 hz hS hT hc hf
    obtain ⟨f, rfl⟩ : ∃ y, f = y + 1 := ⟨f - 1, by omega⟩
    obtain ⟨M1, g1, g2, g3⟩ := e_goesOn (t := t) hz hS hk hc
    have hF := TT_F hT
    have body : fX7_begins_L209 m a3 a5 a7 a9 a11 (sp t1) a13 a15 a18 1 (sp t) Z M = some (.inl (bi (¬ lost (c.1 + c.2.2.1) (c.2.1 + c.2.2.2)), sp (t + 1), M1)) := by
      unfold fX7_begins_L209
      rw [if_neg (by rw [sp_le (by omega) (by omega) (by omega) (by omega)]; omega), if_neg (by decide), q_gdk hz.1, g1, q_b2s]
      simp only [q_nm]
      rw [sp_1]
    rw [q_it_s (y := (bi (¬ lost (c.1 + c.2.2.1) (c.2.1 + c.2.2.2)), sp (t + 1), M1)) body]
    by_cases hl : lost (c.1 + c.2.2.1) (c.2.1 + c.2.2.2)
    · rw [if_pos hl] at hF
      rw [bi_f (fun q => q hl)]
      obtain ⟨f, rfl⟩ : ∃ y, f = y + 1 := ⟨f - 1, by omega⟩
      refine ⟨0, M1, q_it_x ?_, g2, Or.inr ⟨?_, rfl⟩⟩
      · show fX7_begins_L209 m a3 a5 a7 a9 a11 (sp t1) a13 a15 a18 0 (sp (t + 1)) Z M1 = _
        unfold fX7_begins_L209
        by_cases hx : sp t1 ≤ sp (t + 1)
        · rw [if_pos hx]
        · rw [if_neg hx, if_pos rfl]
      · have := TT_nF (by omega) hF (t1 - (t + 1)).toNat
        rw [show t + 1 + (((t1 - (t + 1)).toNat : Nat) : Int) = t1 by omega] at this
        exact this
    · rw [if_neg hl] at hF
      rw [bi_t hl]
      obtain ⟨r, M', b1, b2, b3⟩ := ih (t + 1) M1 _ f (by omega) (by omega) (hz.mv g2.2.1) (hS.mv g2.1) hF (g3 hl) (by omega)
      exact ⟨r, M', b1, g2.tr b2, b3⟩
theorem l_dn {t0 t1 : Int} (h0 : -1000 ≤ t0) (h1 : t1 ≤ 1000) (h : t0 < t1) : ¬ (sp t1 - sp t0).toInt64 = 0 := by
  intro q
  have e : ((sp t1 - sp t0).toInt64).toInt = t1 - t0 := by
    rw [Int32.toInt_toInt64, Int32.toInt_sub, sp_T (by omega) (by omega), sp_T (by omega) (by omega)]
    exact l_bm32 (by omega) (by omega)
  rw [q] at e
  have : (0 : Int64).toInt = 0 := rfl
  omega
/-- the state written into the model's cell -/
theorem mst_put (M : q_C) (m : Nat) (x y u v : Int64) : mst (sJ (sJ (sJ (sJ M m 22 x) m 23 y) m 24 u) m 25 v) m (x, y, u, v) ∧ mmv m M (sJ (sJ (sJ (sJ M m 22 x) m 23 y) m 24 u) m 25 v) := by
  refine ⟨⟨?_, ?_, ?_, ?_⟩, (((mmv.rf.sJ _ _).sJ _ _).sJ _ _).sJ _ _⟩
  · rw [gJ_k _ _ _ _ (by decide), gJ_k _ _ _ _ (by decide), gJ_k _ _ _ _ (by decide), gJ_same]
  · rw [gJ_k _ _ _ _ (by decide), gJ_k _ _ _ _ (by decide), gJ_same]
  · rw [gJ_k _ _ _ _ (by decide), gJ_same]
  · rw [gJ_same]
/-- the model's outer loop: n aimings left, the way not lost so far -/
theorem e_bo {Z : q_Z} {m : Nat} {S : q_SK} {t0 t1 : Int} {ax ay bx by_ : Int64} (hk : okSK S) (h0 : -1000 ≤ t0) (h1 : t1 ≤ 1000) (h01 : t0 < t1) (hl : ¬ lost ax ay) : ∀ (n : Nat) (M : q_C) (w : Int64 × Int64) (f : Nat), n ≤ 3 → zM Z M m → M_sk M m S → n + 1 < f →
    ∃ M', q_it (fun x : Int64 × Int64 × Int32 × Int32 × q_C => fX7_begins_L171 m ax ay bx by_ (sp t0) (sp t1) x.1 x.2.1 x.2.2.1 x.2.2.2.1 Z x.2.2.2.2) f (w.1, w.2, 1, nI (3 - n), M) = some ((aimM S t0 t1 ax ay bx by_ n w).1, (aimM S t0 t1 ax ay bx by_ n w).2, M') ∧ mmv m M M' := by
  intro n
  induction n with
  | zero =>
    intro M w f hn hz hS hf
    obtain ⟨f, rfl⟩ : ∃ y, f = y + 1 := ⟨f - 1, by omega⟩
    refine ⟨M, q_it_x ?_, mmv.rf⟩
    show fX7_begins_L171 m ax ay bx by_ (sp t0) (sp t1) w.1 w.2 1 (nI 3) Z M = _
    unfold fX7_begins_L171
    rw [if_pos (by decide)]
    rfl
  | succ n ih =>
    intro M w f hn hz hS hf
    obtain ⟨f, rfl⟩ : ∃ y, f = y + 1 := ⟨f - 1, by omega⟩
    obtain ⟨p1, p2⟩ := mst_put M m ax ay w.1 w.2
    have hT0 : TT S t0 (ax, ay, w.1, w.2) t0 = some (ax, ay, w.1, w.2) := by rw [TT_0, if_neg hl]
    obtain ⟨r, M1, q1, q2, q3⟩ := e_bl (a3 := ax) (a5 := ay) (a7 := bx) (a9 := by_) (a11 := sp t0) (a13 := w.1) (a15 := w.2) (a18 := nI (3 - (n + 1))) hk h1 h0 (t1 - t0).toNat t0 _ _ q_FU (by omega) (by omega) (hz.mv p2.2.1) (hS.mv p2.1) hT0 p1 (by unfold q_FU; omega)
    have hc3 : ¬ (3 : Int32) ≤ nI (3 - (n + 1)) := fun q => by
      have := (nI_leI (a := 3) (b := 3 - (n + 1)) (by decide) (by omega)).mp q
      omega
    have step : fX7_begins_L171 m ax ay bx by_ (sp t0) (sp t1) w.1 w.2 1 (nI (3 - (n + 1))) Z M = fX7_begins_b235 m ax ay bx by_ (sp t0) (sp t1) w.1 w.2 r (nI (3 - (n + 1))) Z M1 := by
      rw [fX7_begins_L171]
      rw [if_neg hc3, if_neg (by decide), q_gdk hz.1]
      simp only [q_nm]
      rw [q1, q_bis]
    rcases q3 with ⟨c, d1, d2, d3⟩ | ⟨d1, d2⟩
    · have ha : aim1 S t0 t1 ax ay bx by_ w = some (w.1 + (bx - c.1) / (sp t1 - sp t0).toInt64, w.2 + (by_ - c.2.1) / (sp t1 - sp t0).toInt64) := by unfold aim1; rw [d1]; rfl
      obtain ⟨M2, e1, e2⟩ := ih M1 (w.1 + (bx - c.1) / (sp t1 - sp t0).toInt64, w.2 + (by_ - c.2.1) / (sp t1 - sp t0).toInt64) f (by omega) (hz.mv (p2.tr q2).2.1) (hS.mv (p2.tr q2).1) (by omega)
      refine ⟨M2, ?_, (p2.tr q2).tr e2⟩
      rw [q_it_s (y := (w.1 + (bx - c.1) / (sp t1 - sp t0).toInt64, w.2 + (by_ - c.2.1) / (sp t1 - sp t0).toInt64, 1, nI (3 - n), M1))]
      · show _ = some ((match aim1 S t0 t1 ax ay bx by_ w with | none => w | some w1 => aimM S t0 t1 ax ay bx by_ n w1).1, (match aim1 S t0 t1 ax ay bx by_ w with | none => w | some w1 => aimM S t0 t1 ax ay bx by_ n w1).2, M2)
        rw [ha]
        exact e1
      · show fX7_begins_L171 m ax ay bx by_ (sp t0) (sp t1) w.1 w.2 1 (nI (3 - (n + 1))) Z M = _
        rw [step, d2]
        unfold fX7_begins_b235 fX7_begins_b281
        have hd := l_dn h0 h1 h01
        rw [if_neg (by decide), q_gdk hz.1, q_gdc (by simp [hd]), d3.1, d3.2.1]
        simp only [q_nm]
        rw [q_gdc (by simp [hd]), nI_1, show 3 - (n + 1) + 1 = 3 - n by omega]
    · have ha : aim1 S t0 t1 ax ay bx by_ w = none := by unfold aim1; rw [d1]; rfl
      refine ⟨M1, ?_, p2.tr q2⟩
      obtain ⟨f, rfl⟩ : ∃ y, f = y + 1 := ⟨f - 1, by omega⟩
      rw [q_it_s (y := (w.1, w.2, 0, nI (3 - n), M1))]
      · refine q_it_x ?_
        show fX7_begins_L171 m ax ay bx by_ (sp t0) (sp t1) w.1 w.2 0 (nI (3 - n)) Z M1 = some (.inr ((match aim1 S t0 t1 ax ay bx by_ w with | none => w | some w1 => aimM S t0 t1 ax ay bx by_ n w1).1, (match aim1 S t0 t1 ax ay bx by_ w with | none => w | some w1 => aimM S t0 t1 ax ay bx by_ n w1).2, M1))
        rw [ha, fX7_begins_L171]
        by_cases hx : (3 : Int32) ≤ nI (3 - n)
        · rw [if_pos hx]
        · rw [if_neg hx, if_pos rfl]
      · show fX7_begins_L171 m ax ay bx by_ (sp t0) (sp t1) w.1 w.2 1 (nI (3 - (n + 1))) Z M = _
        rw [step, d2]
        unfold fX7_begins_b235 fX7_begins_b281
        rw [if_pos rfl]
        simp only [q_nm]
        rw [nI_1, show 3 - (n + 1) + 1 = 3 - n by omega]
/-- the beginning of the way for two distances: place and bettered speed -/
def wayM (S : q_SK) (s1 s2 : Nat → Int32) (d1 d2 : Int64) : q_cs :=
  (bpx S.1 s1 d1, bpy S.1 s1 d1,
   (aimM S (s1 1).toInt (s2 1).toInt (bpx S.1 s1 d1) (bpy S.1 s1 d1) (bpx S.1 s2 d2) (bpy S.1 s2 d2) 3 ((bpx S.1 s2 d2 - bpx S.1 s1 d1) / (s2 1 - s1 1).toInt64, (bpy S.1 s2 d2 - bpy S.1 s1 d1) / (s2 1 - s1 1).toInt64)).1,
   (aimM S (s1 1).toInt (s2 1).toInt (bpx S.1 s1 d1) (bpy S.1 s1 d1) (bpx S.1 s2 d2) (bpy S.1 s2 d2) 3 ((bpx S.1 s2 d2 - bpx S.1 s1 d1) / (s2 1 - s1 1).toInt64, (bpy S.1 s2 d2 - bpy S.1 s1 d1) / (s2 1 - s1 1).toInt64)).2)
theorem e_begins {Z : q_Z} {M : q_C} {m n f1 f2 : Nat} {sg : Nat → Nat → Int32} {S : q_SK} {gF gB v1 v2 : Int32} (hz : zM Z M m) (hg : M_sg M m n sg) (hS : M_sk M m S) (hk : okSK S) (h1 : f1 < n) (h2 : f2 < n) (o1 : okS1 (sg f1)) (o2 : okS1 (sg f2)) (h12 : (sg f1 1).toInt < (sg f2 1).toInt) (e1 : gI M m 11 = nI f1) (e2 : gI M m 12 = nI f2) (e3 : gI M m 8 = gF) (e4 : gI M m 9 = gB) :
    ∃ M', fX7_begins m v1 v2 Z M = some M' ∧ mmv m M M' ∧ mst M' m (wayM S (sg f1) (sg f2) (gF.toInt64 + gB.toInt64 * v1.toInt64) (gF.toInt64 + gB.toInt64 * v2.toInt64)) := by
  obtain ⟨a1, b1⟩ := M_sg.at (k := 1) hz hg h1 (by decide)
  obtain ⟨a2, b2⟩ := M_sg.at (k := 1) hz hg h2 (by decide)
  rw [show nI 1 = (1 : Int32) from rfl] at a1 b1 a2 b2
  have r1 := o1.2.1
  have r2 := o2.2.1
  have hs1 : sg f1 1 = sp (sg f1 1).toInt := sp_of _
  have hs2 : sg f2 1 = sp (sg f2 1).toInt := sp_of _
  have hd : ¬ (sg f2 1 - sg f1 1).toInt64 = 0 := by rw [hs1, hs2]; exact l_dn (by omega) (by omega) h12
  unfold fX7_begins
  rw [q_gdk hz.1, e1, e2, e3, e4, e_seenX hz hg h1 o1 hS.1, q_bis, e_seenY hz hg h1 o1 hS.1, q_bis, e_seenX hz hg h2 o2 hS.1, q_bis, e_seenY hz hg h2 o2 hS.1, q_bis, hz.a (f := 7) (k := 6) (by decide) rfl, q_bis, q_gdc a1, b1]
  simp only [q_nm]
  rw [q_bis, q_gdc a2, b2, q_gdc (by simp [hd]), q_gdc (by simp [hd]), e_isLost, q_bis, bi_if]
  unfold wayM
  generalize hd1 : gF.toInt64 + gB.toInt64 * v1.toInt64 = d1
  generalize hd2 : gF.toInt64 + gB.toInt64 * v2.toInt64 = d2
  generalize hax : bpx S.1 (sg f1) d1 = ax
  generalize hay : bpy S.1 (sg f1) d1 = ay
  generalize hbx : bpx S.1 (sg f2) d2 = bx
  generalize hby : bpy S.1 (sg f2) d2 = by_
  generalize hw0 : ((bx - ax) / (sg f2 1 - sg f1 1).toInt64, (by_ - ay) / (sg f2 1 - sg f1 1).toInt64) = w0
  have ew1 : (bx - ax) / (sg f2 1 - sg f1 1).toInt64 = w0.1 := by rw [← hw0]
  have ew2 : (by_ - ay) / (sg f2 1 - sg f1 1).toInt64 = w0.2 := by rw [← hw0]
  rw [ew1, ew2]
  have fin : ∀ (w : Int64 × Int64) (M1 : q_C), mmv m M M1 → ∃ M', fX7_begins_b287 m ax ay w.1 w.2 Z M1 = some M' ∧ mmv m M M' ∧ mst M' m (ax, ay, w.1, w.2) := by
    intro w M1 hm
    obtain ⟨p1, p2⟩ := mst_put M1 m ax ay w.1 w.2
    refine ⟨_, ?_, hm.tr p2, p1⟩
    unfold fX7_begins_b287
    rw [q_gdk hz.1]
    rfl
  by_cases hl : lost ax ay
  · rw [if_pos hl]
    have ha : aimM S (sg f1 1).toInt (sg f2 1).toInt ax ay bx by_ 3 w0 = w0 := by
      have hT : TT S (sg f1 1).toInt (ax, ay, w0.1, w0.2) (sg f2 1).toInt = none := by
        have h0 : TT S (sg f1 1).toInt (ax, ay, w0.1, w0.2) (sg f1 1).toInt = none := by rw [TT_0, if_pos hl]
        have := TT_nF (by omega) h0 ((sg f2 1).toInt - (sg f1 1).toInt).toNat
        rw [show (sg f1 1).toInt + ((((sg f2 1).toInt - (sg f1 1).toInt).toNat : Nat) : Int) = (sg f2 1).toInt by omega] at this
        exact this
      show (match aim1 S (sg f1 1).toInt (sg f2 1).toInt ax ay bx by_ w0 with | none => w0 | some w1 => _) = w0
      have : aim1 S (sg f1 1).toInt (sg f2 1).toInt ax ay bx by_ w0 = none := by unfold aim1; rw [hT]; rfl
      rw [this]
    rw [ha]
    unfold fX7_begins_b166
    rw [show q_FU = 99999 + 1 from rfl, q_it_x (r := (w0.1, w0.2, M)), q_bis]
    · exact fin w0 M mmv.rf
    · show fX7_begins_L171 m ax ay bx by_ (sg f1 1) (sg f2 1) w0.1 w0.2 0 0 Z M = _
      unfold fX7_begins_L171
      rw [if_neg (by decide), if_pos rfl]
  · rw [if_neg hl]
    obtain ⟨M1, q1, q2⟩ := e_bo (bx := bx) (by_ := by_) (t0 := (sg f1 1).toInt) (t1 := (sg f2 1).toInt) hk (by omega) (by omega) h12 hl 3 M w0 q_FU (by omega) hz hS (by decide)
    rw [← hs1, ← hs2] at q1
    unfold fX7_begins_b166
    rw [show (0 : Int32) = nI (3 - 3) from rfl, q1, q_bis]
    exact fin _ M1 q2
