/-! reading what is traced -/
theorem pk_bv (x y : Int64) : (pk2 x y).toBitVec = (x.toBitVec <<< (32 : Nat)) ||| (y.toBitVec &&& (BitVec.allOnes 32).setWidth 64) := by
  have h1 : (32 : Int64).toBitVec.smod 64 = 32#64 := by decide
  have h2 : (4294967295 : Int64).toBitVec = (BitVec.allOnes 32).setWidth 64 := by decide
  show (x.toBitVec <<< ((32 : Int64).toBitVec.smod 64)) ||| (y.toBitVec &&& (4294967295 : Int64).toBitVec) = _
  rw [h1, h2]
  rfl
theorem pk_lo (x y : Int64) : (pk2 x y).toInt32 = y.toInt32 := by
  apply Int32.toBitVec.inj
  rw [Int64.toBitVec_toInt32, Int64.toBitVec_toInt32, BitVec.signExtend_eq_setWidth_of_le _ (by decide), BitVec.signExtend_eq_setWidth_of_le _ (by decide), pk_bv]
  apply BitVec.eq_of_getLsbD_eq
  intro i hi
  rw [BitVec.getLsbD_setWidth, BitVec.getLsbD_setWidth, BitVec.getLsbD_or, BitVec.getLsbD_shiftLeft, BitVec.getLsbD_and, BitVec.getLsbD_setWidth, BitVec.getLsbD_allOnes]
  have h64 : i < 64 := by omega
  simp [hi, h64]
theorem pk_hi (x y : Int64) : (pk2 x y >>> (32 : Int64)).toInt32 = x.toInt32 := by
  apply Int32.toBitVec.inj
  have h1 : (32 : Int64).toBitVec.smod 64 = 32#64 := by decide
  have e : (pk2 x y >>> (32 : Int64)).toBitVec = (pk2 x y).toBitVec.sshiftRight 32 := by
    show BitVec.sshiftRight' (pk2 x y).toBitVec ((32 : Int64).toBitVec.smod 64) = _
    rw [h1]
    rfl
  rw [Int64.toBitVec_toInt32, Int64.toBitVec_toInt32, BitVec.signExtend_eq_setWidth_of_le _ (by decide), BitVec.signExtend_eq_setWidth_of_le _ (by decide), e, pk_bv]
  apply BitVec.eq_of_getLsbD_eq
  intro i hi
  have a1 : 32 + i < 64 := by omega
  have a2 : ¬ 64 ≤ i := by omega
  have a3 : ¬ 32 + i < 32 := by omega
  rw [BitVec.getLsbD_setWidth, BitVec.getLsbD_setWidth, BitVec.getLsbD_sshiftRight, if_pos a1, BitVec.getLsbD_or, BitVec.getLsbD_shiftLeft, BitVec.getLsbD_and, BitVec.getLsbD_setWidth, BitVec.getLsbD_allOnes, show 32 + i - 32 = i by omega]
  simp [hi, a1, a2, a3]
def pth (W : q_W) (k : Nat) (t : Int) : Option q_cs := (W.K[k]?).bind fun e => TT W.T W.t0 e.2.2 t
theorem pth_nl {W : q_W} {k : Nat} {t : Int} {c : q_cs} (h : pth W k t = some c) : ¬ lost c.1 c.2.1 := by
  obtain ⟨e, h1, h2⟩ := q_biE h
  exact TT_nl h2
theorem pth_k {W : q_W} {k : Nat} {e : Nat × Nat × q_cs} (h : W.K[k]? = some e) (t : Int) : pth W k t = TT W.T W.t0 e.2.2 t := by
  unfold pth
  rw [h]
  rfl
theorem nl_x {x y : Int64} (h : ¬ lost x y) : x.toInt32.toInt64 = x ∧ y.toInt32.toInt64 = y := by
  obtain ⟨b1, b2⟩ := lost_b h
  exact ⟨l_eq (by rw [l_64, l_32 (by omega) (by omega)]), l_eq (by rw [l_64, l_32 (by omega) (by omega)])⟩
theorem e_read {Z : q_Z} {M : q_C} {w p : Nat} {t : Int} (hw : zK Z w = 15) (hp : gR M w 10 = some p) (hk : zK Z p = 2) (hl : zL Z p = 602) (h1 : -300 ≤ t) (h2 : t ≤ 301) : fX5_read w (sp t) Z M = some (gJ M p (t + 300).toNat) := by
  unfold fX5_read fX5_read_b36
  simp only [q_nm]
  rw [sp_ix h1 (by omega), q_gdk hw, hp, q_ons, if_neg (nI_pos (by omega)), q_bis, q_gdk hk, hl, if_neg (nI_ge (by omega) (by omega)), q_bis, q_gdc (q_okT hk rfl (by omega) (by omega)), nI_clamp (by omega)]
theorem e_rdx {Z : q_Z} {M : q_C} {w p : Nat} {t : Int} {x y : Int64} (hw : zK Z w = 15) (hp : gR M w 10 = some p) (hk : zK Z p = 2) (hl : zL Z p = 602) (h1 : -300 ≤ t) (h2 : t ≤ 301) (hg : gJ M p (t + 300).toNat = pk2 x y) : fX5_xAt w (sp t) Z M = some x.toInt32 ∧ fX5_yAt w (sp t) Z M = some y.toInt32 := by
  unfold fX5_xAt fX5_yAt
  rw [q_gdk hw, e_read hw hp hk hl h1 h2, q_bis, hg, l_32s, pk_hi, q_gdk hw, q_bis, pk_lo]
  exact ⟨rfl, rfl⟩
/-- all that a traced row tells -/
def rdW (Z : q_Z) (M : q_C) (w k : Nat) (W : q_W) : Prop := zK Z w = 15 ∧ (∀ t : Int32, fX5_isThere w t Z M = some (bi ((-300 ≤ t.toInt ∧ t.toInt ≤ 300) ∧ (pth W k t.toInt).isSome = true))) ∧ ∀ (t : Int) (c : q_cs), -300 ≤ t → t ≤ 300 → pth W k t = some c → fX5_xAt w (sp t) Z M = some c.1.toInt32 ∧ fX5_yAt w (sp t) Z M = some c.2.1.toInt32 ∧ fX5_xAt w (sp (t + 1)) Z M = some (c.1 + c.2.2.1).toInt32 ∧ fX5_yAt w (sp (t + 1)) Z M = some (c.2.1 + c.2.2.2).toInt32
theorem trd.rd {Z : q_Z} {M : q_C} {z k : Nat} {W : q_W} (hd : trd M z k) (hB : BW Z M z W) (hW : okW W) (hk : k < W.K.length) : ∃ w, gR M (z + 16) k = some w ∧ rdW Z M w k W := by
  obtain ⟨hF, hR, hK⟩ := hB
  have hl := hW.kl
  obtain ⟨w, d1, d2⟩ := hd
  have he := List.getElem?_eq_getElem hk
  generalize W.K[k] = e at he
  obtain ⟨w', x, y, u, v, k1, k2, k3, k4⟩ := hK k e he
  rw [d1] at k1
  cases k1
  obtain ⟨a1, a2, a3⟩ := hR.1 k w (by omega) d1
  rcases k4 with k4 | ⟨k4, k5⟩
  · rw [d2] at k4; exact absurd k4 (by decide)
  · obtain ⟨p, lo, hi, b1, b2, b3, b4, b5, b6, b7, b8⟩ := k5
    obtain ⟨p1, p2, p3⟩ := a3 p b1
    refine ⟨w, d1, a2, fun t => ?_, fun t c q1 q2 hc => ?_⟩
    · unfold fX5_isThere fX5_isThere_b20 fX5_isThere_b21
      have hlo : t < sp lo ↔ t.toInt < lo := by rw [Int32.lt_iff_toInt_lt, sp_T (by omega) (by omega)]
      have hhi : sp hi < t ↔ hi < t.toInt := by rw [Int32.lt_iff_toInt_lt, sp_T (by omega) (by omega)]
      rw [q_gdk a2, b6, b7]
      by_cases q1 : t.toInt < lo
      · rw [if_pos (hlo.mpr q1), q_gdc (by decide), bi_f (fun q => ?_)]
        have := ((b8 t.toInt q.1.1 q.1.2).1).mpr (by rw [← pth_k he]; exact q.2)
        omega
      · rw [if_neg (fun q => q1 (hlo.mp q))]
        by_cases q2 : hi < t.toInt
        · rw [if_pos (hhi.mpr q2), q_gdc (by decide), bi_f (fun q => ?_)]
          have := ((b8 t.toInt q.1.1 q.1.2).1).mpr (by rw [← pth_k he]; exact q.2)
          omega
        · have hs : (pth W k t.toInt).isSome = true := by
            rw [pth_k he]
            exact ((b8 t.toInt (by omega) (by omega)).1).mp ⟨by omega, by omega⟩
          have hs2 : (-300 ≤ t.toInt ∧ t.toInt ≤ 300) ∧ (pth W k t.toInt).isSome = true := ⟨by omega, hs⟩
          rw [if_neg (fun q => q2 (hhi.mp q)), q_gdc (by decide), bi_t hs2]
    · rw [pth_k he] at hc
      obtain ⟨c1, c2⟩ := (b8 t q1 q2).2 c hc
      obtain ⟨r1, r2⟩ := e_rdx a2 b1 p2 p3 q1 (by omega) c1
      obtain ⟨r3, r4⟩ := e_rdx (t := t + 1) a2 b1 p2 p3 (by omega) (by omega) (by rw [show t + 1 + 300 = t + 301 by omega]; exact c2)
      exact ⟨r1, r2, r3, r4⟩
/-! the model reads -/
theorem e_isWay {Z : q_Z} {M : q_C} {m : Nat} {W : q_W} (hB : MF Z M m W) (v : Int32) : fX7_isWay m v Z M = some (bi (¬ (v < 0 ∨ w_kc W ≤ v))) := by
  obtain ⟨hz, _, _, _, _, _, h13, _⟩ := hB
  unfold fX7_isWay fX7_isWay_b16 fX7_isWay_b17
  by_cases h1 : v < 0
  · rw [if_pos h1, q_gdc (by decide), bi_f (fun q => q (Or.inl h1))]
  · rw [if_neg h1, q_gdk hz.1, h13]
    by_cases h2 : w_kc W ≤ v
    · rw [if_pos h2, q_gdc (by decide), bi_f (fun q => q (Or.inr h2))]
    · have h3 : ¬ (v < 0 ∨ w_kc W ≤ v) := fun q => q.elim h1 h2
      rw [if_neg h2, q_gdc (by decide), bi_t h3]
theorem okW.kno {W : q_W} (hW : okW W) {k : Nat} (hk : k < W.K.length) : ¬ (nI k < 0 ∨ w_kc W ≤ nI k) := by
  have hl := hW.kl
  rintro (q | q)
  · exact nI_pos (by omega) q
  · rw [hW.kle (by omega)] at q; omega
theorem e_mTh {Z : q_Z} {M : q_C} {m k : Nat} {W : q_W} (hB : MW Z M m W) (hW : okW W) (hk : k < W.K.length) {t : Int} (h1 : -300 ≤ t) (h2 : t ≤ 300) : fX7_isThere m (nI k) (sp t) Z M = some (bi ((pth W k t).isSome = true)) := by
  have hl := hW.kl
  have he := List.getElem?_eq_getElem hk
  generalize W.K[k] = e at he
  rw [e_isThere hB.1.1 (by omega) (hB.2 k e he).2.2 h1 h2, pth_k he]
theorem e_mSt {Z : q_Z} {M : q_C} {m k : Nat} {W : q_W} (hB : MW Z M m W) (hW : okW W) (hk : k < W.K.length) {t : Int} (h1 : -300 ≤ t) (h2 : t ≤ 300) {c : q_cs} (hc : pth W k t = some c) : st4 M m k t c := by
  have he := List.getElem?_eq_getElem hk
  generalize W.K[k] = e at he
  obtain ⟨_, _, lo, hi, b1, b2, b3, b4, b5, b6, b7⟩ := hB.2 k e he
  rw [pth_k he] at hc
  exact (b7 t h1 h2).2 c hc
theorem sp_in {v : Int32} : v = sp v.toInt := sp_of v
theorem st_i {v : Int32} : (-300 : Int32) ≤ v ∧ v ≤ 300 ↔ -300 ≤ v.toInt ∧ v.toInt ≤ 300 := by
  rw [Int32.le_iff_toInt_le, Int32.le_iff_toInt_le]
  exact Iff.rfl
/-- class and model hold one world -/
def JW (Z : q_Z) (M : q_C) (z : Nat) (W : q_W) : Prop := BW Z M z W ∧ MW Z M (z + 35) W ∧ okW W
theorem JW.tr {Z Z' : q_Z} {M M' : q_C} {z : Nat} {W : q_W} (h : JW Z M z W) (hz : zx z Z Z') (hB : BW Z' M' z W) (ha : q_ag (trp z) M M') : JW Z' M' z W :=
  ⟨hB, h.2.1.ag hz (ha.wk (fun a q => by unfold trp; omega)), h.2.2⟩
