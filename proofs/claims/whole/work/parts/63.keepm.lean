/-! the model tries two distances -/
def MB (Z : q_Z) (M : q_C) (m : Nat) (W : q_W) : Prop := zM Z M m ∧ M_sk M m W.S ∧ M_sg M m W.n W.sg ∧ (gI M m 11 = w_b1 W ∧ gI M m 12 = w_b2 W) ∧ (gI M m 8 = W.gF ∧ gI M m 9 = W.gB ∧ gI M m 10 = nI W.gN)
theorem MB.fv {Z : q_Z} {M M' : q_C} {m k : Nat} {W : q_W} (h : MB Z M m W) (a : fov m k M M') : MB Z M' m W := by
  obtain ⟨h1, h2, h3, h4, h5⟩ := h
  have hi : ∀ j, gI M' m j = gI M m j := fun j => a.2.1 m j (fun q => by omega)
  refine ⟨h1.mv a.1, a.sk h2, a.sg h3, ?_, ?_⟩
  · rw [hi, hi]; exact h4
  · rw [hi, hi, hi]; exact h5
theorem M_tr.fv {M M' : q_C} {m k k' : Nat} {S : q_SK} {t0 : Int} {c0 : q_cs} (h : M_tr M m k' S t0 c0) (a : fov m k M M') (hk : k' ≠ k) : M_tr M' m k' S t0 c0 := by
  obtain ⟨lo, hi, b1, b2, b3, b4, b5, b6, b7⟩ := h
  refine ⟨lo, hi, b1, b2, b3, b4, ?_, ?_, fun t q1 q2 => ⟨(b7 t q1 q2).1, fun c hc => ?_⟩⟩
  · rw [a.2.1 _ _ (by omega)]; exact b5
  · rw [a.2.1 _ _ (by omega)]; exact b6
  · have hx : ¬ (601 * k ≤ ix k' t ∧ ix k' t < 601 * k + 601) := by
      unfold ix
      omega
    unfold st4
    rw [a.2.2 _ _ (by omega) (by omega), a.2.2 _ _ (by omega) (by omega), a.2.2 _ _ (by omega) (by omega), a.2.2 _ _ (by omega) (by omega)]
    exact (b7 t q1 q2).2 c hc
theorem e_mtry {Z : q_Z} {M : q_C} {m : Nat} {W : q_W} {p : Nat × Nat} {but : Int32} {i j k : Nat} (hB : MB Z M m W) (hW : okW W) (hp : W.ba = some p) (hk : k < 100) :
    ∃ M1 M2, fX7_begins m (nI i) (nI j) Z M = some M1 ∧ mmv m M M1 ∧ fX7_follows m (nI k) (W.sg p.1 1) Z M1 = some M2 ∧ fX7_fitsAll m (nI k) but Z M2 = some (bi (trF W p but i j = true)) ∧ fov m k M M2 ∧ M_tr M2 m k W.S (W.sg p.1 1).toInt (trV W p i j) := by
  obtain ⟨hz, hS, hg, ⟨e1, e2⟩, ⟨e3, e4, e5⟩⟩ := id hB
  have hbk := hW.2.2.1 p hp
  unfold w_b1 at e1
  unfold w_b2 at e2
  rw [hp] at e1 e2
  obtain ⟨M1, a1, a2, a3⟩ := e_begins (v1 := nI i) (v2 := nI j) hz hg hS hW.1.1 hbk.1 hbk.2.1 (hbk.2.2.1 _ hbk.1) (hbk.2.2.1 _ hbk.2.1) hbk.2.2.2.2.2 e1 e2 e3 e4
  have hB1 := hB.fv (k := k) a2.f
  have r1 := (hbk.2.2.1 p.1 hbk.1).2.1
  obtain ⟨M2, b1, b2, b3⟩ := e_follows (k := k) hB1.1 hB1.2.1 hW.1.1 hk r1.1 r1.2 a3
  rw [← sp_of] at b1
  have hB2 := hB1.fv b2
  have b3' : M_tr M2 m k W.S (W.sg p.1 1).toInt (trV W p i j) := b3
  refine ⟨M1, M2, a1, a2, b1, ?_, a2.f.tr b2, b3'⟩
  exact e_fitsAll hB2.1 hk b3' hB2.2.2.1 hW.2.1.2 hB2.2.1
