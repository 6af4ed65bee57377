/-! the class traces a way -/
def trW (Z : q_Z) (M : q_C) (w cm o p : Nat) (S : q_SK) : Prop := goW Z M cm o S ∧ (zK Z w = 15 ∧ gR M w 10 = some p ∧ zK Z p = 2 ∧ zL Z p = 602) ∧ (w ≠ cm ∧ p ≠ cm ∧ p ≠ w) ∧ ∀ i, i < 7 → o + i ≠ w ∧ o + i ≠ p
def tmv (w cm p : Nat) (M M' : q_C) : Prop := q_ag (fun a => a ≠ w ∧ a ≠ cm ∧ a ≠ p) M M' ∧ M'.2.2 = M.2.2
theorem tmv.rf {w cm p : Nat} {M : q_C} : tmv w cm p M M := ⟨q_ag.rf, rfl⟩
theorem tmv.tr {w cm p : Nat} {M M1 M2 : q_C} (a : tmv w cm p M M1) (b : tmv w cm p M1 M2) : tmv w cm p M M2 := ⟨a.1.tr b.1, b.2.trans a.2⟩
theorem cmv.tm {w cm p : Nat} {M M' : q_C} (a : cmv cm M M') : tmv w cm p M M' := ⟨a.1.wk (fun _ h => h.2.1), a.2⟩
theorem tmv_w {w cm p : Nat} {M M1 : q_C} (a : tmv w cm p M M1) (k : Nat) (v : Int32) : tmv w cm p M (sI M1 w k v) := ⟨a.1.sI (fun q => q.1 rfl) k v, a.2⟩
theorem tmv_p {w cm p : Nat} {M M1 : q_C} (a : tmv w cm p M M1) (k : Nat) (v : Int64) : tmv w cm p M (sJ M1 p k v) := ⟨a.1.sJ (fun q => q.2.2 rfl) k v, a.2⟩
theorem trW.mv {Z : q_Z} {M M' : q_C} {w cm o p : Nat} {S : q_SK} (g : trW Z M w cm o p S) (m : tmv w cm p M M') : trW Z M' w cm o p S := by
  obtain ⟨g1, ⟨g2, g3, g4, g5⟩, g6, g7⟩ := g
  refine ⟨⟨g1.1, g1.2.1.mv m.2, g1.2.2.1.ag m.1 (fun i hi => ⟨(g7 i hi).1, g1.2.2.2.2 i hi, (g7 i hi).2⟩), g1.2.2.2⟩, ⟨g2, ?_, g4, g5⟩, g6, g7⟩
  unfold gR; rw [m.2]; exact g3
theorem sp_ix {t : Int} (h1 : -300 ≤ t) (h2 : t ≤ 400) : sp t - (-300 : Int32) = nI (t + 300).toNat := by
  refine i_eq ?_
  rw [nI_toInt (by omega), Int32.toInt_sub, sp_T (by omega) (by omega), show (-300 : Int32).toInt = -300 from rfl, l_bm32 (by omega) (by omega)]
  omega
theorem l_32s : (32 : Int32).toInt64 &&& 63 = 32 := by decide
theorem e_write {Z : q_Z} {M : q_C} {w cm o p : Nat} {S : q_SK} {c : q_cs} {t : Int} {l : Int32} (g : trW Z M w cm o p S) (hc : cst M cm c (sp t) l) (h1 : -300 ≤ t) (h2 : t ≤ 301) : fX5_write w (some cm) Z M = some (sJ M p (t + 300).toNat (pk2 c.1 c.2.1)) := by
  obtain ⟨g1, ⟨g2, g3, g4, g5⟩, g6, g7⟩ := g
  unfold fX5_write fX5_write_b51
  rw [q_bis, q_gdk g1.1]
  simp only [q_nm]
  rw [hc.2.2.2.2.1, sp_ix h1 (by omega), q_gdk g2, g3, q_ons, if_neg (nI_pos (by omega)), q_bis, q_gdk g4, g5, if_neg (nI_ge (by omega) (by omega)), q_bis, q_gdc (q_okT g4 rfl (by omega) (by omega)), nI_clamp (by omega), l_32s, hc.1, hc.2.1]
  rfl
theorem e_tF {Z : q_Z} {w cm o p : Nat} {S : q_SK} {t0 : Int} {c0 : q_cs} (h0 : -300 ≤ t0) : ∀ (k : Nat) (t : Int) (M : q_C) (c : q_cs) (f : Nat), t + k = 301 → t0 ≤ t → trW Z M w cm o p S → TT S t0 c0 t = some c → cst M cm c (sp t) 0 → gJ M p (t + 300).toNat = pk2 c.1 c.2.1 → gI M w 9 = sp (t - 1) → k + 2 < f →
    ∃ (M' : q_C) (hi : Int), q_it (fun x : Int32 × q_C => fX5_trace_L62 w (some o) (some cm) x.1 Z x.2) f (sp t, M) = some M' ∧ tmv w cm p M M' ∧ t - 1 ≤ hi ∧ hi ≤ 300 ∧ gI M' w 9 = sp hi ∧ (∀ u, t ≤ u → u ≤ hi → ∃ d, TT S t0 c0 u = some d ∧ gJ M' p (u + 300).toNat = pk2 d.1 d.2.1 ∧ gJ M' p (u + 301).toNat = pk2 (d.1 + d.2.2.1) (d.2.1 + d.2.2.2)) ∧ (hi < 300 → TT S t0 c0 (hi + 1) = none) ∧ (∀ j, j ≠ 9 → gI M' w j = gI M w j) ∧ ∀ j, j ≤ (t + 300).toNat → gJ M' p j = gJ M p j := by
  intro k
  induction k with
  | zero =>
    intro t M c f h1 h2 g hT hc hp h9 hf
    obtain ⟨f, rfl⟩ : ∃ y, f = y + 1 := ⟨f - 1, by omega⟩
    obtain rfl : t = 301 := by omega
    refine ⟨M, 300, q_it_x ?_, tmv.rf, by omega, by omega, h9, fun u q1 q2 => by omega, fun q => by omega, fun _ _ => rfl, fun _ _ => rfl⟩
    show fX5_trace_L62 w (some o) (some cm) (sp 301) Z M = _
    unfold fX5_trace_L62
    rw [if_pos (by decide)]
  | succ k ih =>
    intro t M c f h1 h2 g hT hc hp h9 hf
    obtain ⟨f, rfl⟩ : ∃ y, f = y + 1 := ⟨f - 1, by omega⟩
    obtain ⟨g1, ⟨g2, g3, g4, g5⟩, g6, g7⟩ := id g
    have hlt : ¬ (300 : Int32) < sp t := by
      rw [Int32.lt_iff_toInt_lt, sp_T (by omega) (by omega), show (300 : Int32).toInt = 300 from rfl]
      omega
    generalize hM1 : sI M w 9 (sp t) = M1
    have m1 : tmv w cm p M M1 := by rw [← hM1]; exact tmv_w tmv.rf _ _
    have gg1 := g.mv m1
    have hc1 : cst M1 cm c (sp t) 0 := by
      rw [← hM1]
      refine ⟨hc.1, hc.2.1, hc.2.2.1, hc.2.2.2.1, ?_, ?_⟩
      · rw [gI_a _ _ _ _ (by omega)]; exact hc.2.2.2.2.1
      · rw [gI_a _ _ _ _ (by omega)]; exact hc.2.2.2.2.2
    obtain ⟨M2, b1, b2, b3⟩ := e_go (t' := t + 1) gg1.1 hT hc1 (by omega) (by omega) (by omega) (by omega)
    have m2 : tmv w cm p M M2 := m1.tr b2.tm
    have gg2 := g.mv m2
    have hF := TT_F hT
    have i2 : ∀ j, gI M2 w j = gI M1 w j := fun j => b2.1.I (by omega) j
    have p2 : ∀ j, gJ M2 p j = gJ M p j := fun j => by rw [b2.1.J (by omega) j, ← hM1, gJ_sI]
    have i29 : gI M2 w 9 = sp t := by rw [i2, ← hM1, gI_same]
    have i2o : ∀ j, j ≠ 9 → gI M2 w j = gI M w j := fun j q => by rw [i2, ← hM1, gI_k _ _ _ _ q]
    have body : ∀ (e : q_cs) (l : Int32), cst M2 cm e (sp (t + 1)) l → fX5_trace_L62 w (some o) (some cm) (sp t) Z M = some (.inl (sp (t + 1), sJ M2 p (t + 1 + 300).toNat (pk2 e.1 e.2.1))) := by
      intro e l he
      unfold fX5_trace_L62
      rw [if_neg hlt, q_bis, q_gdk g1.1, if_pos hc.2.2.2.2.2, q_gdk g2]
      simp only [q_nm]
      rw [hM1, sp_1, b1, q_bis, e_write gg2 he (by omega) (by omega), q_bis]
    rcases b3 with ⟨c', hc', hcs⟩ | ⟨hn, q, d, e, hd, hq⟩
    · rw [q_it_s (y := (sp (t + 1), sJ M2 p (t + 1 + 300).toNat (pk2 c'.1 c'.2.1))) (body c' 0 hcs)]
      generalize hM3 : sJ M2 p (t + 1 + 300).toNat (pk2 c'.1 c'.2.1) = M3
      have m3 : tmv w cm p M M3 := by rw [← hM3]; exact tmv_p m2 _ _
      have hcs3 : cst M3 cm c' (sp (t + 1)) 0 := by
        rw [← hM3]
        refine ⟨?_, ?_, ?_, ?_, hcs.2.2.2.2.1, hcs.2.2.2.2.2⟩
        · rw [gJ_a _ _ _ _ (by omega)]; exact hcs.1
        · rw [gJ_a _ _ _ _ (by omega)]; exact hcs.2.1
        · rw [gJ_a _ _ _ _ (by omega)]; exact hcs.2.2.1
        · rw [gJ_a _ _ _ _ (by omega)]; exact hcs.2.2.2.1
      obtain ⟨M', hi, r1, r2, r3, r4, r5, r6, r7, r8, r9⟩ := ih (t + 1) M3 c' f (by omega) (by omega) (g.mv m3) hc' hcs3 (by rw [← hM3, gJ_same]) (by rw [← hM3, gI_sJ, i29]; congr 1; omega) (by omega)
      have p3 : ∀ j, j ≤ (t + 300).toNat → gJ M3 p j = gJ M p j := fun j q => by rw [← hM3, gJ_k _ _ _ _ (by omega), p2]
      refine ⟨M', hi, r1, m3.tr r2, by omega, r4, r5, fun u q1 q2 => ?_, r7, fun j q => ?_, fun j q => ?_⟩
      · by_cases q : t + 1 ≤ u
        · exact r6 u q q2
        · obtain rfl : u = t := by omega
          refine ⟨c, hT, ?_, ?_⟩
          · rw [r9 _ (by omega), p3 _ (by omega)]; exact hp
          · rw [r9 _ (by omega), ← hM3, show u + 301 = u + 1 + 300 by omega, gJ_same]
            have hnl : ¬ lost (c.1 + c.2.2.1) (c.2.1 + c.2.2.2) := fun q => by
              rw [if_pos q, hc'] at hF; cases hF
            rw [if_neg hnl, hc'] at hF
            cases hF
            rfl
      · rw [r8 j q, ← hM3, gI_sJ, i2o j q]
      · rw [r9 j (by omega), p3 j q]
    · rcases hq with ⟨u1, u2, u3, u4, u5, u6⟩ | ⟨u1, u2, u3⟩
      · obtain rfl : q = t := by omega
        rw [hT] at hd
        cases hd
        rw [q_it_s (y := (sp (q + 1), sJ M2 p (q + 1 + 300).toNat (pk2 e.1 e.2.1))) (body e 1 u3)]
        generalize hM3 : sJ M2 p (q + 1 + 300).toNat (pk2 e.1 e.2.1) = M3
        have m3 : tmv w cm p M M3 := by rw [← hM3]; exact tmv_p m2 _ _
        have h35 : gI M3 cm 5 = 1 := by rw [← hM3, gI_sJ]; exact u3.2.2.2.2.2
        obtain ⟨f, rfl⟩ : ∃ y, f = y + 1 := ⟨f - 1, by omega⟩
        refine ⟨M3, q, q_it_x ?_, m3, by omega, by omega, by rw [← hM3, gI_sJ]; exact i29, fun u q1 q2 => ?_, fun _ => u6, fun j qj => ?_, fun j qj => ?_⟩
        · show fX5_trace_L62 w (some o) (some cm) (sp (q + 1)) Z M3 = _
          unfold fX5_trace_L62
          by_cases hx : (300 : Int32) < sp (q + 1)
          · rw [if_pos hx]
          · rw [if_neg hx, q_bis, q_gdk g1.1, if_neg (by rw [h35]; decide)]
        · obtain rfl : u = q := by omega
          refine ⟨c, hT, ?_, ?_⟩
          · rw [← hM3, gJ_k _ _ _ _ (by omega), p2]; exact hp
          · rw [← hM3, show u + 301 = u + 1 + 300 by omega, gJ_same, u4, u5]
        · rw [← hM3, gI_sJ, i2o j qj]
        · rw [← hM3, gJ_k _ _ _ _ (by omega), p2]
      · omega
