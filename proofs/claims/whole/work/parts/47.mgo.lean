/-! the model's comet -/
def M_tb (M : q_C) (no to w : Nat) (T : q_TB) : Prop := T.1 ≤ 40 ∧ gI M no w = nI T.1 ∧ ∀ i, i < T.1 → gI M to (80 * w + 2 * i) = T.2.1 i ∧ gI M to (80 * w + 2 * i + 1) = T.2.2 i
theorem e_place {Z : q_Z} {M : q_C} {no to w ax : Nat} {T : q_TB} (hw : w < 2) (hax : ax < 2) (z1 : zK Z no = 1) (z2 : zL Z no = 2) (z3 : zK Z to = 1) (z4 : zL Z to = 160) (hT : M_tb M no to w T) (t : Int32) : fX7_place (some to) (some no) (nI w) t (nI ax) Z M = some (if ax = 0 then tpx T t else tpy T t) := by
  obtain ⟨b1, b2, b3⟩ := hT
  unfold fX7_place fX7_place_b31
  have ok1 : q_ok Z no 1 (nI w) = true := q_okT z1 rfl (by omega) (by omega)
  rw [q_bis, q_gdc ok1, nI_clamp (by omega), b2]
  by_cases h0 : T.1 = 0
  · rw [if_pos (by rw [h0]; rfl)]
    unfold tpx tpy
    rw [if_pos h0, if_pos h0]
    split <;> rfl
  · have hn0 : ¬ nI T.1 = 0 := nI_ne0 (by omega) (by omega)
    rw [if_neg hn0, q_gdc ok1, q_gdc (by simp [hn0])]
    simp only [q_nm]
    have hl := fm_lt t (n := T.1) (by omega)
    have hr := i_rem t (n := T.1) (by omega) b1
    have hf := i_fm t (n := T.1) (by omega) b1
    have h00 : (0 : Int32).toInt = 0 := rfl
    have hN : (nI T.1).toInt = (T.1 : Int) := nI_toInt (by omega)
    have hF : (nI (fm t T.1)).toInt = ((fm t T.1 : Nat) : Int) := nI_toInt (by omega)
    have b4 := Int.tmod_lt_of_pos t.toInt (b := (T.1 : Int)) (by omega)
    have b5 := Int.lt_tmod_of_pos t.toInt (b := (T.1 : Int)) (by omega)
    have fin : ∀ x : Int32, x = nI (fm t T.1) → (some to).bind (fun a_8 => q_gd (q_ok Z a_8 1 ((80 : Int32) * nI w + (2 : Int32) * x + nI ax)) (some (gI M a_8 ((80 : Int32) * nI w + (2 : Int32) * x + nI ax).toNatClampNeg))) = some (if ax = 0 then tpx T t else tpy T t) := by
      intro x hx
      subst hx
      have e : (80 : Int32) * nI w + (2 : Int32) * nI (fm t T.1) + nI ax = nI (80 * w + 2 * fm t T.1 + ax) := by
        rw [show (80 : Int32) = nI 80 from rfl, show (2 : Int32) = nI 2 from rfl, pk_mul, pk_mul, nI_add, nI_add]
      rw [q_bis, e, q_gdc (q_okT z3 rfl (by omega) (by omega)), nI_clamp (by omega)]
      unfold tpx tpy
      rw [if_neg h0, if_neg h0]
      rcases (show ax = 0 ∨ ax = 1 by omega) with rfl | rfl
      · rw [if_pos rfl, Nat.add_zero, (b3 _ hl).1]
      · rw [if_neg (by decide), (b3 _ hl).2]
    generalize hv : t - t / nI T.1 * nI T.1 = v at hr ⊢
    by_cases hc : 0 ≤ v
    · rw [if_pos hc]
      refine fin v (i_eq ?_)
      rw [Int32.le_iff_toInt_le, h00] at hc
      rw [if_neg (by omega)] at hf
      rw [hr, hF, hf]
    · rw [if_neg hc, q_gdc ok1]
      refine fin _ (i_eq ?_)
      rw [Int32.le_iff_toInt_le, h00] at hc
      rw [if_pos (by omega)] at hf
      rw [Int32.toInt_add, hr, hN, hF, hf]
      exact l_bm32 (by omega) (by omega)
/-- shapes and references of the model -/
def mLn : Nat → Nat := fun k => match k with
  | 0 => 2 | 1 => 160 | 2 => 2 | 3 => 160 | 4 => 2 | 5 => 2 | 6 => 60 | 7 => 200 | 8 => 200 | 9 => 60100 | 10 => 60100 | 11 => 60100 | 12 => 60100 | _ => 601
/-- which field holds the k-th array, and of which kind it is -/
def mFd : Nat → Nat := fun k => match k with
  | 0 => 0 | 1 => 1 | 2 => 2 | 3 => 3 | 4 => 4 | 5 => 5 | 6 => 7 | 7 => 15 | 8 => 16 | 9 => 17 | 10 => 18 | 11 => 19 | 12 => 20 | 13 => 26 | 14 => 27 | 15 => 28 | _ => 29
def zM (Z : q_Z) (M : q_C) (m : Nat) : Prop := zK Z m = 17 ∧ ∀ k, k < 17 → gR M m (mFd k) = some (m + 1 + k) ∧ zK Z (m + 1 + k) = (if k < 9 then 1 else 2) ∧ zL Z (m + 1 + k) = mLn k
/-- only longs of the cell m have changed -/
def mmv (m : Nat) (M M' : q_C) : Prop := M'.1 = M.1 ∧ M'.2.2 = M.2.2 ∧ ∀ a, a ≠ m → M'.2.1 a = M.2.1 a
theorem mmv.rf {m : Nat} {M : q_C} : mmv m M M := ⟨rfl, rfl, fun _ _ => rfl⟩
theorem mmv.tr {m : Nat} {M M1 M2 : q_C} (a : mmv m M M1) (b : mmv m M1 M2) : mmv m M M2 := ⟨b.1.trans a.1, b.2.1.trans a.2.1, fun x hx => (b.2.2 x hx).trans (a.2.2 x hx)⟩
theorem mmv.sJ {m : Nat} {M M1 : q_C} (a : mmv m M M1) (k : Nat) (v : Int64) : mmv m M (sJ M1 m k v) := ⟨a.1, a.2.1, fun x hx => (q_u2a _ _ _ _ hx).trans (a.2.2 x hx)⟩
theorem mmv.I {m : Nat} {M M' : q_C} (a : mmv m M M') (b k : Nat) : gI M' b k = gI M b k := by unfold gI; rw [a.1]
theorem mmv.R {m : Nat} {M M' : q_C} (a : mmv m M M') (b k : Nat) : gR M' b k = gR M b k := by unfold gR; rw [a.2.1]
theorem mmv.J {m : Nat} {M M' : q_C} (a : mmv m M M') {b : Nat} (hb : b ≠ m) (k : Nat) : gJ M' b k = gJ M b k := by unfold gJ; rw [a.2.2 b hb]
theorem zM.mv {Z : q_Z} {M M' : q_C} {m : Nat} (h : zM Z M m) (e : M'.2.2 = M.2.2) : zM Z M' m := ⟨h.1, fun k hk => ⟨by unfold gR; rw [e]; exact (h.2 k hk).1, (h.2 k hk).2⟩⟩
theorem M_tb.mv {M M' : q_C} {no to w : Nat} {T : q_TB} (h : M_tb M no to w T) (e : M'.1 = M.1) : M_tb M' no to w T := by
  unfold M_tb gI at h ⊢
  rw [e]
  exact h
def M_sk (M : q_C) (m : Nat) (S : q_SK) : Prop := M_tb M (m + 1) (m + 2) 0 S.1 ∧ M_tb M (m + 1) (m + 2) 1 S.2.1 ∧ gI M (m + 5) 0 = S.2.2.1 ∧ gI M (m + 5) 1 = S.2.2.2
theorem M_sk.mv {M M' : q_C} {m : Nat} {S : q_SK} (h : M_sk M m S) (e : M'.1 = M.1) : M_sk M' m S := ⟨h.1.mv e, h.2.1.mv e, by unfold gI; rw [e]; exact h.2.2.1, by unfold gI; rw [e]; exact h.2.2.2⟩
theorem zM.a {Z : q_Z} {M : q_C} {m : Nat} (h : zM Z M m) {f k : Nat} (hk : k < 17) (hf : mFd k = f) : gR M m f = some (m + 1 + k) := by rw [← hf]; exact (h.2 k hk).1
theorem zM.k1 {Z : q_Z} {M : q_C} {m : Nat} (h : zM Z M m) {k : Nat} (hk : k < 9) : zK Z (m + 1 + k) = 1 := by rw [(h.2 k (by omega)).2.1, if_pos hk]
theorem zM.k2 {Z : q_Z} {M : q_C} {m : Nat} (h : zM Z M m) {k : Nat} (hk : 9 ≤ k) (hk2 : k < 17) : zK Z (m + 1 + k) = 2 := by rw [(h.2 k hk2).2.1, if_neg (by omega)]
theorem zM.l {Z : q_Z} {M : q_C} {m : Nat} (h : zM Z M m) {k n : Nat} (hk : k < 17) (hn : mLn k = n) : zL Z (m + 1 + k) = n := by rw [(h.2 k hk).2.2, hn]
theorem e_now {Z : q_Z} {M : q_C} {m w ax : Nat} {T : q_TB} (hz : zM Z M m) (hw : w < 2) (hax : ax < 2) (hT : M_tb M (m + 1) (m + 2) w T) (t : Int32) : fX7_now m (nI w) t (nI ax) Z M = some (if ax = 0 then tpx T t else tpy T t) := by
  unfold fX7_now
  rw [q_gdk hz.1, hz.a (f := 1) (k := 1) (by decide) rfl, q_bis, hz.a (f := 0) (k := 0) (by decide) rfl, q_bis, e_place hw hax (hz.k1 (k := 0) (by decide)) (hz.l (k := 0) (by decide) rfl) (hz.k1 (k := 1) (by decide)) (hz.l (k := 1) (by decide) rfl) hT, q_bis]
theorem e_then {Z : q_Z} {M : q_C} {m w ax : Nat} {T : q_TB} (hz : zM Z M m) (hw : w < 2) (hax : ax < 2) (hT : M_tb M (m + 3) (m + 4) w T) (t : Int32) : fX7_then m (nI w) t (nI ax) Z M = some (if ax = 0 then tpx T t else tpy T t) := by
  unfold fX7_then
  rw [q_gdk hz.1, hz.a (f := 3) (k := 3) (by decide) rfl, q_bis, hz.a (f := 2) (k := 2) (by decide) rfl, q_bis, e_place hw hax (hz.k1 (k := 2) (by decide)) (hz.l (k := 2) (by decide) rfl) (hz.k1 (k := 3) (by decide)) (hz.l (k := 3) (by decide) rfl) hT, q_bis]
def mst (M : q_C) (m : Nat) (c : q_cs) : Prop := gJ M m 22 = c.1 ∧ gJ M m 23 = c.2.1 ∧ gJ M m 24 = c.2.2.1 ∧ gJ M m 25 = c.2.2.2
theorem e_pulls {Z : q_Z} {M : q_C} {m : Nat} {S : q_SK} (t sg : Int32) {x y u v : Int64} (hz : zM Z M m) (hS : M_sk M m S) (hk : okSK S) (hc : mst M m (x, y, u, v)) (hl : ¬ lost x y) :
    ∃ M', fX7_pulls m t sg Z M = some M' ∧ mst M' m (x, y, u + sg.toInt64 * acx S t x y, v + sg.toInt64 * acy S t x y) ∧ mmv m M M' := by
  obtain ⟨bx, by_⟩ := lost_b hl
  have tx := hk.2.x t
  have ty := hk.2.y t
  obtain ⟨c0, c1, c2, c3⟩ := hc
  have ok0 : q_ok Z (m + 1 + 4) 1 (0 : Int32) = true := q_okT (hz.k1 (k := 4) (by decide)) (i := 0) rfl (by decide) (by rw [hz.l (k := 4) (by decide) rfl]; decide)
  have ok1 : q_ok Z (m + 1 + 4) 1 (1 : Int32) = true := q_okT (hz.k1 (k := 4) (by decide)) (i := 1) rfl (by decide) (by rw [hz.l (k := 4) (by decide) rfl]; decide)
  have m0 : gI M (m + 1 + 4) (0 : Int32).toNatClampNeg = S.2.2.1 := hS.2.2.1
  have m1 : gI M (m + 1 + 4) (1 : Int32).toNatClampNeg = S.2.2.2 := hS.2.2.2
  have n1 : fX7_now m (1 : Int32) t (0 : Int32) Z M = some (tpx S.2.1 t) := e_now (w := 1) (ax := 0) hz (by decide) (by decide) hS.2.1 t
  have n2 : fX7_now m (1 : Int32) t (1 : Int32) Z M = some (tpy S.2.1 t) := e_now (w := 1) (ax := 1) hz (by decide) (by decide) hS.2.1 t
  unfold fX7_pulls
  rw [q_gdk hz.1, n1, q_bis]
  simp only [q_nm]
  rw [n2, q_bis, hz.a (f := 4) (k := 4) (by decide) rfl, q_bis, q_gdc ok0, m0, c0, c1]
  dsimp only
  rw [e_pull7 (nA_neg bx) (nA_neg by_), q_bis, q_bis, q_gdc ok1, m1, e_pull7 (nA_dif tx bx) (nA_dif ty by_), q_bis, q_bis, q_gdc ok0, e_pull7 (nA_neg by_) (nA_neg bx), q_bis, q_bis, q_gdc ok1, e_pull7 (nA_dif ty by_) (nA_dif tx bx), q_bis]
  refine ⟨_, rfl, ⟨?_, ?_, ?_, ?_⟩, (mmv.rf.sJ _ _).sJ _ _⟩
  · rw [gJ_k _ _ _ _ (by decide), gJ_k _ _ _ _ (by decide)]; exact c0
  · rw [gJ_k _ _ _ _ (by decide), gJ_k _ _ _ _ (by decide)]; exact c1
  · rw [gJ_k _ _ _ _ (by decide), gJ_same, c2]; rfl
  · rw [gJ_same, gJ_k _ _ _ _ (by decide), c3, m0, m1]; rfl
theorem e_goesOn {Z : q_Z} {M : q_C} {m : Nat} {S : q_SK} {t : Int} {c : q_cs} (hz : zM Z M m) (hS : M_sk M m S) (hk : okSK S) (hc : mst M m c) :
    ∃ M', fX7_goesOn m (sp t) Z M = some (bi (¬ lost (c.1 + c.2.2.1) (c.2.1 + c.2.2.2)), M') ∧ mmv m M M' ∧ (¬ lost (c.1 + c.2.2.1) (c.2.1 + c.2.2.2) → mst M' m (fw S (sp (t + 1)) c)) := by
  obtain ⟨c0, c1, c2, c3⟩ := hc
  unfold fX7_goesOn
  rw [q_gdk hz.1]
  simp only [q_nm]
  rw [c0, c2]
  generalize hM2 : sJ M m 22 (c.1 + c.2.2.1) = M2
  have m2 : mmv m M M2 := by rw [← hM2]; exact mmv.rf.sJ _ _
  have b0 : gJ M2 m 22 = c.1 + c.2.2.1 := by rw [← hM2, gJ_same]
  have b1 : gJ M2 m 23 = c.2.1 := by rw [← hM2, gJ_k _ _ _ _ (by decide)]; exact c1
  have b2 : gJ M2 m 24 = c.2.2.1 := by rw [← hM2, gJ_k _ _ _ _ (by decide)]; exact c2
  have b3 : gJ M2 m 25 = c.2.2.2 := by rw [← hM2, gJ_k _ _ _ _ (by decide)]; exact c3
  rw [b1, b3]
  generalize hM3 : sJ M2 m 23 (c.2.1 + c.2.2.2) = M3
  have m3 : mmv m M M3 := by rw [← hM3]; exact m2.sJ _ _
  have d0 : gJ M3 m 22 = c.1 + c.2.2.1 := by rw [← hM3, gJ_k _ _ _ _ (by decide)]; exact b0
  have d1 : gJ M3 m 23 = c.2.1 + c.2.2.2 := by rw [← hM3, gJ_same]
  have d2 : gJ M3 m 24 = c.2.2.1 := by rw [← hM3, gJ_k _ _ _ _ (by decide)]; exact b2
  have d3 : gJ M3 m 25 = c.2.2.2 := by rw [← hM3, gJ_k _ _ _ _ (by decide)]; exact b3
  rw [d0, d1, e_isLost, q_bis]
  by_cases hl : lost (c.1 + c.2.2.1) (c.2.1 + c.2.2.2)
  · rw [bi_t hl, if_neg (by decide), q_gdc (by decide), bi_f (fun q => q hl)]
    exact ⟨M3, rfl, m3, fun q => absurd hl q⟩
  · rw [bi_f hl, if_pos rfl, sp_1, bi_t hl]
    obtain ⟨M', p1, p2, p3⟩ := e_pulls (sp (t + 1)) (1 : Int32) (hz.mv m3.2.1) (hS.mv m3.1) hk (show mst M3 m (c.1 + c.2.2.1, c.2.1 + c.2.2.2, c.2.2.1, c.2.2.2) from ⟨d0, d1, d2, d3⟩) hl
    rw [p1, q_bis, q_gdc (by decide)]
    refine ⟨M', rfl, m3.tr p3, fun _ => ?_⟩
    rw [i1, l_1m, l_1m] at p2
    exact p2
theorem e_goesBack {Z : q_Z} {M : q_C} {m : Nat} {S : q_SK} {t : Int} {c : q_cs} (hz : zM Z M m) (hS : M_sk M m S) (hk : okSK S) (hc : mst M m c) (hl0 : ¬ lost c.1 c.2.1) :
    ∃ M', fX7_goesBack m (sp t) Z M = some (bi (¬ lost (bw S (sp t) c).1 (bw S (sp t) c).2.1), M') ∧ mmv m M M' ∧ mst M' m (bw S (sp t) c) := by
  obtain ⟨M1, p1, p2, p3⟩ := e_pulls (sp t) (-1 : Int32) hz hS hk (show mst M m (c.1, c.2.1, c.2.2.1, c.2.2.2) from hc) hl0
  rw [im1, l_m1, l_m1] at p2
  obtain ⟨c0, c1, c2, c3⟩ := p2
  dsimp only at c0 c1 c2 c3
  have ebw : bw S (sp t) c = (c.1 - (c.2.2.1 - acx S (sp t) c.1 c.2.1), c.2.1 - (c.2.2.2 - acy S (sp t) c.1 c.2.1), c.2.2.1 - acx S (sp t) c.1 c.2.1, c.2.2.2 - acy S (sp t) c.1 c.2.1) := rfl
  generalize hU : c.2.2.1 - acx S (sp t) c.1 c.2.1 = U at c2 ebw
  generalize hV : c.2.2.2 - acy S (sp t) c.1 c.2.1 = V at c3 ebw
  rw [ebw]
  dsimp only
  unfold fX7_goesBack fX7_goesBack_b51
  rw [q_gdk hz.1, p1, q_bis]
  simp only [q_nm]
  rw [c0, c2]
  generalize hM2 : sJ M1 m 22 (c.1 - U) = M2
  have m2 : mmv m M M2 := by rw [← hM2]; exact p3.sJ _ _
  have b0 : gJ M2 m 22 = c.1 - U := by rw [← hM2, gJ_same]
  have b1 : gJ M2 m 23 = c.2.1 := by rw [← hM2, gJ_k _ _ _ _ (by decide)]; exact c1
  have b2 : gJ M2 m 24 = U := by rw [← hM2, gJ_k _ _ _ _ (by decide)]; exact c2
  have b3 : gJ M2 m 25 = V := by rw [← hM2, gJ_k _ _ _ _ (by decide)]; exact c3
  rw [b1, b3]
  generalize hM3 : sJ M2 m 23 (c.2.1 - V) = M3
  have m3 : mmv m M M3 := by rw [← hM3]; exact m2.sJ _ _
  have d0 : gJ M3 m 22 = c.1 - U := by rw [← hM3, gJ_k _ _ _ _ (by decide)]; exact b0
  have d1 : gJ M3 m 23 = c.2.1 - V := by rw [← hM3, gJ_same]
  have d2 : gJ M3 m 24 = U := by rw [← hM3, gJ_k _ _ _ _ (by decide)]; exact b2
  have d3 : gJ M3 m 25 = V := by rw [← hM3, gJ_k _ _ _ _ (by decide)]; exact b3
  rw [d0, d1, e_isLost, q_bis]
  by_cases hl : lost (c.1 - U) (c.2.1 - V)
  · rw [bi_t hl, if_neg (by decide), q_gdc (by decide), bi_f (fun q => q hl)]
    exact ⟨M3, rfl, m3, d0, d1, d2, d3⟩
  · rw [bi_f hl, if_pos rfl, q_gdc (by decide), bi_t hl]
    exact ⟨M3, rfl, m3, d0, d1, d2, d3⟩
