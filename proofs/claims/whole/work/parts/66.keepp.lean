theorem e_keepM {Z : q_Z} {M : q_C} {m : Nat} {W : q_W} {p : Nat × Nat} (hB : MW Z M m W) (hW : okW W) (hp : W.ba = some p) :
    ∃ (M' : q_C), fX7_keep m Z M = some (w_kc (kpW W p), M') ∧ MW Z M' m (kpW W p) ∧ q_ag (fun a => ¬ (m ≤ a ∧ a ≤ m + 17)) M M' := by
  obtain ⟨⟨h1, h2, h3, h4, h5, h6, h7, h8, h9⟩, hK⟩ := hB
  have hbk := hW.2.2.1 p hp
  have hn12 := hW.2.1.1
  have e1 : gI M m 11 = nI p.1 := by rw [h5.1]; unfold w_b1; rw [hp]
  obtain ⟨o1, v1⟩ := M_sg.at (k := 1) h1 h4 hbk.1 (by decide)
  rw [show nI 1 = (1 : Int32) from rfl] at o1 v1
  have hz2 : zM Z (sI M m 13 0) m := h1.mv rfl
  generalize hM2 : sI (sI M m 13 0) m 14 (W.sg p.1 1) = M2
  have i2 : ∀ a q, ¬ (a = m ∧ (q = 13 ∨ q = 14)) → gI M2 a q = gI M a q := fun a q hq => by rw [← hM2, gI_sI, if_neg (by omega), gI_sI, if_neg (by omega)]
  have r2 : M2.2.2 = M.2.2 := by rw [← hM2]; rfl
  have a2 : q_ag (fun a => ¬ (m ≤ a ∧ a ≤ m + 17)) M M2 := by
    rw [← hM2]
    exact (q_ag.rf.sI (fun q => q ⟨by omega, by omega⟩) _ _).sI (fun q => q ⟨by omega, by omega⟩) _ _
  have hI : mkI Z m W p M (krows (trF W p (-1)) (trV W p) W.gN 0) M2 := by
    refine ⟨⟨h1.mv r2, ⟨⟨h2.1.1, ?_, fun a ha => ?_⟩, ⟨h2.2.1.1, ?_, fun a ha => ?_⟩, ?_, ?_⟩, ⟨h4.1, ?_, fun a ha k hk => ?_⟩, ⟨?_, ?_⟩, ⟨?_, ?_, ?_⟩⟩, ?_, ?_, fun k e he => (by cases he), r2, a2, ?_⟩
    · rw [i2 _ _ (by omega)]; exact h2.1.2.1
    · rw [i2 _ _ (by omega), i2 _ _ (by omega)]; exact h2.1.2.2 a ha
    · rw [i2 _ _ (by omega)]; exact h2.2.1.2.1
    · rw [i2 _ _ (by omega), i2 _ _ (by omega)]; exact h2.2.1.2.2 a ha
    · rw [i2 _ _ (by omega)]; exact h2.2.2.1
    · rw [i2 _ _ (by omega)]; exact h2.2.2.2
    · rw [i2 _ _ (by omega)]; exact h4.2.1
    · rw [i2 _ _ (by omega)]; exact h4.2.2 a ha k hk
    · rw [i2 _ _ (by omega)]; exact h5.1
    · rw [i2 _ _ (by omega)]; exact h5.2
    · rw [i2 _ _ (by omega)]; exact h6.1
    · rw [i2 _ _ (by omega)]; exact h6.2.1
    · rw [i2 _ _ (by omega)]; exact h6.2.2
    · rw [← hM2, gI_k _ _ _ _ (by decide), gI_same]; rfl
    · rw [← hM2, gI_same]
    · rw [i2 _ _ (by omega)]
  obtain ⟨M3, b1, b2⟩ := e_mk2 hW hp W.gN 0 q_FU M2 (by omega) (by have := hW.2.2.2.1; unfold q_FU; omega) hI
  rw [nI_0] at b1
  obtain ⟨c1, c2, c3, c4, c5, c6, c7⟩ := b2
  obtain ⟨M4, d1, d2, d3⟩ := e_mk4 c1.1
  obtain ⟨M5, f1, f2, f3, f4⟩ := e_mk3 (d2.z c1.1) 160 0 q_FU M4 (by omega) (by unfold q_FU; omega) thm.rf (fun q hq => absurd hq (by omega)) (fun q => rfl)
  rw [nI_0] at f1
  have t := d2.tr f2
  have r5 : M5.2.2 = M3.2.2 := by rw [t.1]
  have jj : ∀ a q, gJ M5 a q = gJ M3 a q := fun a q => by unfold gJ; rw [t.1]
  have e13 : gI M5 m 13 = w_kc (kpW W p) := by rw [t.I (by omega) (by omega) (by omega)]; exact c2
  refine ⟨M5, ?_, ⟨⟨c1.1.mv r5, ⟨⟨c1.2.1.1.1, ?_, fun a ha => ?_⟩, ⟨c1.2.1.2.1.1, ?_, fun a ha => ?_⟩, ?_, ?_⟩, ⟨c1.2.1.1.1, ?_, fun a ha => ?_⟩, ⟨c1.2.2.1.1, ?_, fun a ha k hk => ?_⟩, ⟨?_, ?_⟩, ⟨?_, ?_, ?_⟩, e13, ?_, ?_⟩, fun k e he => ?_⟩, fun a ha => ⟨?_, ?_, ?_⟩⟩
  · unfold fX7_keep
    rw [q_gdk h1.1, e1, if_neg (fun q => m1_ne (by have := hbk.1; omega) q.symm)]
    simp only [q_nm]
    rw [hz2.a (f := 7) (k := 6) (by decide) rfl, q_bis, gI_k _ _ _ _ (by decide), e1, q_gdc o1, gI_a _ _ _ _ (by omega), v1, hM2, b1, q_bis, d1, q_bis, f1, q_bis, e13]
  · rw [t.I (by omega) (by omega) (by omega)]; exact c1.2.1.1.2.1
  · rw [t.I (by omega) (by omega) (by omega), t.I (by omega) (by omega) (by omega)]; exact c1.2.1.1.2.2 a ha
  · rw [t.I (by omega) (by omega) (by omega)]; exact c1.2.1.2.1.2.1
  · rw [t.I (by omega) (by omega) (by omega), t.I (by omega) (by omega) (by omega)]; exact c1.2.1.2.1.2.2 a ha
  · rw [t.I (by omega) (by omega) (by omega)]; exact c1.2.1.2.2.1
  · rw [t.I (by omega) (by omega) (by omega)]; exact c1.2.1.2.2.2
  · rw [f4, d3 0 (by decide)]; exact c1.2.1.1.2.1
  · have h40 := c1.2.1.1.1
    have ha' : a < W.S.1.1 := ha
    rw [f3 _ (by omega), f3 _ (by omega), d2.I (by omega) (by omega) (by omega), d2.I (by omega) (by omega) (by omega)]
    exact c1.2.1.1.2.2 a ha
  · rw [t.I (by omega) (by omega) (by omega)]; exact c1.2.2.1.2.1
  · rw [t.I (by omega) (by omega) (by omega)]; exact c1.2.2.1.2.2 a ha k hk
  · rw [t.I (by omega) (by omega) (by omega)]; exact c1.2.2.2.1.1
  · rw [t.I (by omega) (by omega) (by omega)]; exact c1.2.2.2.1.2
  · rw [t.I (by omega) (by omega) (by omega)]; exact c1.2.2.2.2.1
  · rw [t.I (by omega) (by omega) (by omega)]; exact c1.2.2.2.2.2.1
  · rw [t.I (by omega) (by omega) (by omega)]; exact c1.2.2.2.2.2.2
  · rw [t.I (by omega) (by omega) (by omega), c3]; exact sp_of _
  · rw [t.I (by omega) (by omega) (by omega), c7]; exact h9
  · obtain ⟨w1, w2, lo, hi, b1, b2, b3, b4, b5, b6, b7⟩ := c4 k e he
    refine ⟨?_, ?_, lo, hi, b1, b2, b3, b4, ?_, ?_, fun u q1 q2 => ⟨(b7 u q1 q2).1, fun c hc => ?_⟩⟩
    · rw [t.I (by omega) (by omega) (by omega)]; exact w1
    · rw [t.I (by omega) (by omega) (by omega)]; exact w2
    · rw [t.I (by omega) (by omega) (by omega)]; exact b5
    · rw [t.I (by omega) (by omega) (by omega)]; exact b6
    · unfold st4
      rw [jj, jj, jj, jj]
      exact (b7 u q1 q2).2 c hc
  · rw [t.2 a (by omega) (by omega) (by omega)]; exact (c6 a ha).1
  · rw [t.1]; exact (c6 a ha).2.1
  · rw [t.1]; exact (c6 a ha).2.2
theorem e_keepM0 {Z : q_Z} {M : q_C} {m : Nat} {W : q_W} (hB : MW Z M m W) (hp : W.ba = none) : fX7_keep m Z M = some (-1, M) := by
  unfold fX7_keep
  rw [q_gdk hB.1.1.1, hB.1.2.2.2.2.1.1]
  unfold w_b1
  rw [hp, if_pos rfl]
