/-! the model keeps -/
def mkI (Z : q_Z) (m : Nat) (W : q_W) (p : Nat × Nat) (M0 : q_C) (l : List (Nat × Nat × q_cs)) (M : q_C) : Prop := MB Z M m W ∧ gI M m 13 = nI l.length ∧ gI M m 14 = W.sg p.1 1 ∧ M_kp M m W.S (W.sg p.1 1).toInt l ∧ M.2.2 = M0.2.2 ∧ q_ag (fun a => ¬ (m ≤ a ∧ a ≤ m + 17)) M0 M ∧ gI M m 21 = gI M0 m 21
theorem fov.og {m k : Nat} {M M' : q_C} (a : fov m k M M') : q_ag (fun a => ¬ (m ≤ a ∧ a ≤ m + 17)) M M' := fun x hx => ⟨funext fun j => a.2.1 x j (fun q => by omega), funext fun j => a.2.2 x j (fun q => by omega) (fun q => by omega), by rw [a.1]⟩
theorem M_kp.fv {M M' : q_C} {m : Nat} {S : q_SK} {t0 : Int} {l : List (Nat × Nat × q_cs)} {k : Nat} (h : M_kp M m S t0 l) (a : fov m k M M') (hk : l.length ≤ k) : M_kp M' m S t0 l := by
  intro q e he
  have hq : q < l.length := (List.getElem?_eq_some_iff.mp he).1
  obtain ⟨h1, h2, h3⟩ := h q e he
  refine ⟨?_, ?_, h3.fv a (by omega)⟩
  · rw [a.2.1 _ _ (by omega)]; exact h1
  · rw [a.2.1 _ _ (by omega)]; exact h2
theorem mkI.fv {Z : q_Z} {m : Nat} {W : q_W} {p : Nat × Nat} {M0 M M' : q_C} {l : List (Nat × Nat × q_cs)} (h : mkI Z m W p M0 l M) (a : fov m l.length M M') : mkI Z m W p M0 l M' := by
  obtain ⟨h1, h2, h3, h4, h5, h6, h7⟩ := h
  have hi : ∀ j, gI M' m j = gI M m j := fun j => a.2.1 m j (fun q => by omega)
  exact ⟨h1.fv a, by rw [hi]; exact h2, by rw [hi]; exact h3, h4.fv a (Nat.le_refl _), a.1.trans h5, h6.tr a.og, by rw [hi]; exact h7⟩
theorem okKn {Z : q_Z} {M : q_C} {m k j : Nat} (hz : zM Z M m) (hk : k < 100) (hj : j < 2) : q_ok Z (m + 1 + 7) 1 ((2 : Int32) * nI k + nI j) = true ∧ ((2 : Int32) * nI k + nI j).toNatClampNeg = 2 * k + j := by
  have e : (2 : Int32) * nI k + nI j = nI (2 * k + j) := by rw [show (2 : Int32) = nI 2 from rfl, pk_mul, nI_add]
  rw [e]
  exact ⟨q_okT (hz.k1 (by decide)) rfl (by omega) (by rw [hz.l (k := 7) (n := 200) (by decide) rfl]; omega), nI_clamp (by omega)⟩
theorem e_mk1 {Z : q_Z} {m : Nat} {W : q_W} {p : Nat × Nat} {M0 : q_C} (hW : okW W) (hp : W.ba = some p) {i : Nat} (hi : i < W.gN) : ∀ (d j f : Nat) (M : q_C), j + d = W.gN → d + 1 < f → mkI Z m W p M0 (krows (trF W p (-1)) (trV W p) W.gN i ++ krow (trF W p (-1)) (trV W p) i j) M →
    ∃ (M' : q_C), q_it (fun x : Int32 × q_C => fX7_keep_L44 m (nI i) x.1 Z x.2) f (nI j, M) = some M' ∧ mkI Z m W p M0 (krows (trF W p (-1)) (trV W p) W.gN (i + 1)) M' := by
  have hN := hW.2.2.2.1
  intro d
  induction d with
  | zero =>
    intro j f M h1 h2 h3
    obtain ⟨f, rfl⟩ : ∃ y, f = y + 1 := ⟨f - 1, by omega⟩
    obtain rfl : j = W.gN := by omega
    refine ⟨M, q_it_x ?_, h3⟩
    show fX7_keep_L44 m (nI i) (nI W.gN) Z M = _
    unfold fX7_keep_L44
    rw [q_gdk h3.1.1.1, h3.1.2.2.2.2.2.2, if_pos (Int32.le_refl _)]
  | succ d ih =>
    intro j f M h1 h2 h3
    obtain ⟨f, rfl⟩ : ∃ y, f = y + 1 := ⟨f - 1, by omega⟩
    have hj : j < W.gN := by omega
    have hlt := kr_lt (F := trF W p (-1)) (V := trV W p) hN.2.2 hi hj
    generalize hl : krows (trF W p (-1)) (trV W p) W.gN i ++ krow (trF W p (-1)) (trV W p) i j = l at h3 hlt
    have hl2 : krows (trF W p (-1)) (trV W p) W.gN i ++ krow (trF W p (-1)) (trV W p) i (j + 1) = l ++ (if trF W p (-1) i j = true then [(i, j, trV W p i j)] else []) := by
      rw [← hl, List.append_assoc]; rfl
    have hcmp : ¬ gI M m 10 ≤ nI j := by rw [h3.1.2.2.2.2.2.2]; exact nI_ge hj (by omega)
    obtain ⟨M1, M2, a1, a2, a3, a4, a5, a6⟩ := e_mtry (but := (-1 : Int32)) (i := i) (j := j) h3.1 hW hp hlt
    have h4 := h3.fv a5
    have hz := h4.1.1
    have body : fX7_keep_L44 m (nI i) (nI j) Z M = (if trF W p (-1) i j = true then
        q_gd (q_ok Z (m + 8) 1 ((2 : Int32) * nI l.length)) (
        q_nm (sI M2 (m + 8) ((2 : Int32) * nI l.length).toNatClampNeg (nI i)) fun M_18 =>
        Option.bind (gR M_18 m 15) fun a_19 =>
        q_gd (q_ok Z a_19 1 (((2 : Int32) * (gI M_18 m 13)) + (1 : Int32))) <|
        q_nm (sI M_18 a_19 (((2 : Int32) * (gI M_18 m 13)) + (1 : Int32)).toNatClampNeg (nI j)) fun M_22 =>
        q_nm (sI M_22 m 13 ((gI M_22 m 13) + (1 : Int32))) fun M_23 =>
        fX7_keep_b121 m (nI i) (nI j) Z M_23) else fX7_keep_b121 m (nI i) (nI j) Z M2) := by
      rw [fX7_keep_L44]
      rw [q_gdk h3.1.1.1, if_neg hcmp, a1, q_bis, a2.I, a2.I, h3.2.1, h3.2.2.1, a3, q_bis, h4.2.1, a4, q_bis, bi_if, hz.a (f := 15) (k := 7) (by decide) rfl, q_bis]
    cases hF : trF W p (-1) i j with
    | false =>
      rw [hF, if_neg (by decide)] at body hl2
      rw [List.append_nil] at hl2
      unfold fX7_keep_b121 at body
      simp only [q_nm] at body
      rw [nI_1] at body
      rw [q_it_s (y := (nI (j + 1), M2)) body]
      exact ih (j + 1) f M2 (by omega) (by omega) (by rw [hl2]; exact h4)
    | true =>
      rw [hF, if_pos rfl] at body hl2
      obtain ⟨k1, k2⟩ := okKn (j := 0) hz hlt (by decide)
      obtain ⟨k3, k4⟩ := okKn (j := 1) hz hlt (by decide)
      rw [show nI 0 = (0 : Int32) from rfl, Int32.add_zero, Nat.add_zero] at k2
      rw [show nI 0 = (0 : Int32) from rfl, Int32.add_zero] at k1
      rw [show nI 1 = (1 : Int32) from rfl] at k3 k4
      rw [q_gdc k1, k2] at body
      unfold fX7_keep_b121 at body
      simp only [q_nm] at body
      generalize hM3 : sI M2 (m + 8) (2 * l.length) (nI i) = M3 at body
      have r3 : M3.2.2 = M2.2.2 := by rw [← hM3]; rfl
      have g3 : gR M3 m 15 = some (m + 8) := by unfold gR; rw [r3]; exact hz.a (f := 15) (k := 7) (by decide) rfl
      have i3 : ∀ a q, a ≠ m + 8 → gI M3 a q = gI M2 a q := fun a q ha => by rw [← hM3, gI_a _ _ _ _ ha]
      rw [g3, q_bis, i3 m 13 (by omega), h4.2.1, q_gdc k3, k4] at body
      generalize hM4 : sI M3 (m + 8) (2 * l.length + 1) (nI j) = M4 at body
      have r4 : M4.2.2 = M2.2.2 := by rw [← hM4]; exact r3
      have i4 : ∀ a q, a ≠ m + 8 → gI M4 a q = gI M2 a q := fun a q ha => by rw [← hM4, gI_a _ _ _ _ ha]; exact i3 a q ha
      rw [i4 m 13 (by omega), h4.2.1, nI_1, nI_1] at body
      generalize hM5 : sI M4 m 13 (nI (l.length + 1)) = M5 at body
      have r5 : M5.2.2 = M2.2.2 := by rw [← hM5]; exact r4
      have i5 : ∀ a q, a ≠ m + 8 → ¬ (a = m ∧ q = 13) → gI M5 a q = gI M2 a q := fun a q ha hq => by rw [← hM5, gI_sI, if_neg hq]; exact i4 a q ha
      have j5 : ∀ a q, gJ M5 a q = gJ M2 a q := fun a q => by rw [← hM5, gJ_sI, ← hM4, gJ_sI, ← hM3, gJ_sI]
      have kn : ∀ q, gI M5 (m + 8) q = if q = 2 * l.length + 1 then nI j else if q = 2 * l.length then nI i else gI M2 (m + 8) q := fun q => by
        rw [← hM5, gI_a _ _ _ _ (by omega), ← hM4, gI_sI, ← hM3, gI_sI]
        by_cases e1 : q = 2 * l.length + 1
        · rw [if_pos ⟨rfl, e1⟩, if_pos e1]
        · rw [if_neg (fun w => e1 w.2), if_neg e1]
          by_cases e2 : q = 2 * l.length
          · rw [if_pos ⟨rfl, e2⟩, if_pos e2]
          · rw [if_neg (fun w => e2 w.2), if_neg e2]
      have trm : ∀ k c0, M_tr M2 m k W.S (W.sg p.1 1).toInt c0 → M_tr M5 m k W.S (W.sg p.1 1).toInt c0 := by
        intro k c0 ⟨lo, hi, b1, b2, b3, b4, b5, b6, b7⟩
        refine ⟨lo, hi, b1, b2, b3, b4, by rw [i5 _ _ (by omega) (by omega)]; exact b5, by rw [i5 _ _ (by omega) (by omega)]; exact b6, fun t q1 q2 => ⟨(b7 t q1 q2).1, fun c hc => ?_⟩⟩
        unfold st4
        rw [j5, j5, j5, j5]
        exact (b7 t q1 q2).2 c hc
      rw [q_it_s (y := (nI (j + 1), M5)) body]
      obtain ⟨h1', h2', h3', h4', h5', h6', h7'⟩ := h4
      obtain ⟨c1, c2, c3, c4, c5⟩ := h1'
      refine ih (j + 1) f M5 (by omega) (by omega) ?_
      rw [hl2]
      have hlen : (l ++ [(i, j, trV W p i j)]).length = l.length + 1 := by rw [List.length_append]; rfl
      refine ⟨⟨c1.mv r5, ⟨⟨c2.1.1, ?_, fun a ha => ?_⟩, ⟨c2.2.1.1, ?_, fun a ha => ?_⟩, ?_, ?_⟩, ⟨c3.1, ?_, fun a ha k hk => ?_⟩, ⟨?_, ?_⟩, ⟨?_, ?_, ?_⟩⟩, ?_, ?_, fun k e he => ?_, r5.trans h5', fun a ha => ⟨funext fun q => ?_, funext fun q => ?_, ?_⟩, ?_⟩
      · rw [i5 _ _ (by omega) (by omega)]; exact c2.1.2.1
      · rw [i5 _ _ (by omega) (by omega), i5 _ _ (by omega) (by omega)]; exact c2.1.2.2 a ha
      · rw [i5 _ _ (by omega) (by omega)]; exact c2.2.1.2.1
      · rw [i5 _ _ (by omega) (by omega), i5 _ _ (by omega) (by omega)]; exact c2.2.1.2.2 a ha
      · rw [i5 _ _ (by omega) (by omega)]; exact c2.2.2.1
      · rw [i5 _ _ (by omega) (by omega)]; exact c2.2.2.2
      · rw [i5 _ _ (by omega) (by omega)]; exact c3.2.1
      · rw [i5 _ _ (by omega) (by omega)]; exact c3.2.2 a ha k hk
      · rw [i5 _ _ (by omega) (by omega)]; exact c4.1
      · rw [i5 _ _ (by omega) (by omega)]; exact c4.2
      · rw [i5 _ _ (by omega) (by omega)]; exact c5.1
      · rw [i5 _ _ (by omega) (by omega)]; exact c5.2.1
      · rw [i5 _ _ (by omega) (by omega)]; exact c5.2.2
      · rw [hlen, ← hM5, gI_same]
      · rw [i5 _ _ (by omega) (by omega)]; exact h3'
      · by_cases hk : k < l.length
        · rw [List.getElem?_append_left hk] at he
          obtain ⟨w1, w2, w3⟩ := h4' k e he
          refine ⟨?_, ?_, trm k _ w3⟩
          · rw [kn, if_neg (by omega), if_neg (by omega)]; exact w1
          · rw [kn, if_neg (by omega), if_neg (by omega)]; exact w2
        · have hk2 : k = l.length := by
            have := (List.getElem?_eq_some_iff.mp he).1
            omega
          subst hk2
          rw [List.getElem?_append_right (Nat.le_refl _), Nat.sub_self] at he
          cases he
          refine ⟨?_, ?_, trm _ _ a6⟩
          · rw [kn, if_neg (by omega), if_pos rfl]
          · rw [kn, if_pos rfl]
      · have := (h6' a ha).1
        show gI M5 a q = gI M0 a q
        rw [i5 a q (by omega) (by omega)]
        exact congrFun this q
      · show gJ M5 a q = gJ M0 a q
        rw [j5]
        exact congrFun (h6' a ha).2.1 q
      · rw [r5]; exact (h6' a ha).2.2
      · rw [i5 _ _ (by omega) (by omega)]; exact h7'
