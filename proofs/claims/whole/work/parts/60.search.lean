/-! the ways tried and kept, told once -/
def krow (F : Nat → Nat → Bool) (V : Nat → Nat → q_cs) (i : Nat) : Nat → List (Nat × Nat × q_cs)
  | 0 => []
  | j + 1 => krow F V i j ++ (if F i j = true then [(i, j, V i j)] else [])
def krows (F : Nat → Nat → Bool) (V : Nat → Nat → q_cs) (g : Nat) : Nat → List (Nat × Nat × q_cs)
  | 0 => []
  | i + 1 => krows F V g i ++ krow F V i g
theorem krow_l (F : Nat → Nat → Bool) (V : Nat → Nat → q_cs) (i : Nat) : ∀ j, (krow F V i j).length ≤ j := by
  intro j
  induction j with
  | zero => exact Nat.le_refl _
  | succ j ih =>
    show (krow F V i j ++ _).length ≤ _
    rw [List.length_append]
    split
    · show _ + 1 ≤ _; omega
    · show _ + 0 ≤ _; omega
theorem krows_l (F : Nat → Nat → Bool) (V : Nat → Nat → q_cs) (g : Nat) : ∀ i, (krows F V g i).length ≤ i * g := by
  intro i
  induction i with
  | zero => exact Nat.zero_le _
  | succ i ih =>
    show (krows F V g i ++ krow F V i g).length ≤ _
    rw [List.length_append, Nat.succ_mul]
    have := krow_l F V i g
    omega
theorem kr_lt {F : Nat → Nat → Bool} {V : Nat → Nat → q_cs} {g i j : Nat} (hg : g ≤ 10) (hi : i < g) (hj : j < g) : (krows F V g i ++ krow F V i j).length < 100 := by
  have h1 := krows_l F V g i
  have h2 := krow_l F V i j
  have h3 : i * g ≤ (g - 1) * g := Nat.mul_le_mul_right g (by omega)
  have h4 : (g - 1) * g + g ≤ 100 := by
    have : (g - 1) * g + g = g * g := by
      obtain ⟨q, rfl⟩ : ∃ q, g = q + 1 := ⟨g - 1, by omega⟩
      rw [show q + 1 - 1 = q from rfl, Nat.succ_mul q (q + 1)]
    rw [this]
    exact Nat.mul_le_mul hg hg
  rw [List.length_append]
  omega
/-- what is tried at two distances of a base, and whether it is kept -/
def trV (W : q_W) (p : Nat × Nat) (i j : Nat) : q_cs := wayM W.S (W.sg p.1) (W.sg p.2) (W.gF.toInt64 + W.gB.toInt64 * (nI i).toInt64) (W.gF.toInt64 + W.gB.toInt64 * (nI j).toInt64)
def trF (W : q_W) (p : Nat × Nat) (but : Int32) (i j : Nat) : Bool := fa W.sg W.S.1 (TT W.S (W.sg p.1 1).toInt (trV W p i j)) but W.n
theorem fa_lost {sg : Nat → Nat → Int32} {E : q_TB} {T : Int → Option q_cs} {but : Int32} {f : Nat} (hb : nI f ≠ but) (hk : sg f 0 = 0) (hT : T (sg f 1).toInt = none) : ∀ n, f < n → fa sg E T but n = false := by
  intro n hn
  have h1 : fa sg E T but (f + 1) = false := by
    show (fa sg E T but f && (decide (nI f = but) || (decide (sg f 0 = 2) || ftb (sg f) E (T (sg f 1).toInt)))) = false
    rw [hT, hk, decide_eq_false hb]
    cases fa sg E T but f <;> rfl
  have := fa_no h1 (n - (f + 1))
  rw [show f + 1 + (n - (f + 1)) = n by omega] at this
  exact this
/-- the class tries two distances -/
theorem e_tries {Z : q_Z} {M : q_C} {z : Nat} {W : q_W} {p : Nat × Nat} {but : Int32} {i j : Nat} (hB : BF Z M z W) (hW : okW W) (hp : W.ba = some p) (hb : but ≠ nI p.2) (hi : i < W.gN) (hj : j < W.gN) {α : Type} (A : q_C → Option α) (B : q_C → Option α) :
    ∃ M', amv z M M' ∧ (q_b2 (fX6_aim z (nI i) (nI j) Z M) fun r_3 M_5 => if r_3 = 0 then A M_5 else q_b2 (fX6_fitsAllBut z but Z M_5) fun r_8 M_10 => if r_8 = 0 then A M_10 else B M_10) = (if trF W p but i j = true then B M' else A M') ∧
      (trF W p but i j = true → ∃ x y u v : Int32, trV W p i j = (x.toInt64, y.toInt64, u.toInt64, v.toInt64) ∧ wst M' (z + 18) (nI i) (nI j) x y u v (W.sg p.1 1) ∧ ¬ lost x.toInt64 y.toInt64) := by
  obtain ⟨hz, hS, hT, hg, ⟨e4, e5⟩, ⟨e6, e7, e8⟩, e10, e11⟩ := hB
  have hN := hW.2.2.2.1
  have hbk := hW.2.2.1 p hp
  unfold w_b1 at e4
  unfold w_b2 at e5
  rw [hp] at e4 e5
  have ti : (nI i).toInt = (i : Int) := nI_toInt (by omega)
  have tj : (nI j).toInt = (j : Int) := nI_toInt (by omega)
  obtain ⟨r, M1, a1, a2, a3⟩ := e_aim (i := nI i) (j := nI j) hz hS hW.1.1 hg hbk hN.1 e4 e5 e6 e7 (by omega) (by omega)
  rw [a1, q_b2s]
  rcases a3 with ⟨rfl, h0⟩ | ⟨rfl, x, y, u, v, h1, h2, h3⟩
  · have hF : trF W p but i j = false := fa_lost (f := p.2) (fun q => hb q.symm) hbk.2.2.2.2.1 h0 W.n hbk.2.1
    rw [hF]
    exact ⟨M1, a2, rfl, fun q => absurd q (by decide)⟩
  · have hz1 := hz.mv a2.2
    have r1 := (hbk.2.2.1 p.1 hbk.1).2.1
    have h2' : wst M1 (z + 18) (nI i) (nI j) x y u v (sp (W.sg p.1 1).toInt) := by rw [← sp_of]; exact h2
    obtain ⟨M2, b1, b2⟩ := e_fitsBut (but := but) hz1 (a2.sk hS) hW.1.1 (a2.sg hg) hW.2.1.2 h2' h3 r1.1 r1.2
    have hv : trV W p i j = (x.toInt64, y.toInt64, u.toInt64, v.toInt64) := h1
    rw [if_neg (by decide), b1, q_b2s, bi_if, ← hv]
    refine ⟨M2, a2.tr b2.a, rfl, fun _ => ⟨x, y, u, v, hv, h2.ag b2.1 (by omega), h3⟩⟩
/-- a kept row more -/
theorem B_kp.more {Z' : q_Z} {M M' : q_C} {z w : Nat} {S : q_SK} {t0 : Int} {l : List (Nat × Nat × q_cs)} {i j : Nat} {x y u v : Int32} (h : B_kp M z S t0 l) (hl : l.length < 100) (hR : zR Z' M' z) (hw : gR M' (z + 16) l.length = some w) (hs : wst M' w (nI i) (nI j) x y u v (sp t0)) (h7 : gI M' w 7 = 0) (ho : ∀ k', k' ≠ l.length → gR M' (z + 16) k' = gR M (z + 16) k') (ha : q_ag (fun a => a ≠ w ∧ a ≠ z + 16) M M') : B_kp M' z S t0 (l ++ [(i, j, (x.toInt64, y.toInt64, u.toInt64, v.toInt64))]) := by
  intro k e he
  by_cases hk : k < l.length
  · rw [List.getElem?_append_left hk] at he
    obtain ⟨w', x', y', u', v', h1, h2, h3, h4⟩ := h k e he
    have g1 : gR M' (z + 16) k = some w' := by rw [ho k (by omega)]; exact h1
    obtain ⟨a1, a2, a3⟩ := hR.1 k w' (by omega) g1
    have hne : w' ≠ w := fun q => by
      subst q
      have := hR.2.1 k l.length w' (by omega) hl g1 hw
      omega
    have kw := (hR.1 l.length w hl hw).2.1
    refine ⟨w', x', y', u', v', g1, h2, h3.ag ha ⟨hne, by omega⟩, ?_⟩
    rw [ha.I ⟨hne, by omega⟩]
    rcases h4 with q | ⟨q1, q2⟩
    · exact Or.inl q
    · refine Or.inr ⟨q1, q2.ag ha ⟨hne, by omega⟩ (fun p hp => ?_)⟩
      rw [← ha.R ⟨hne, by omega⟩] at hp
      obtain ⟨p1, p2, p3⟩ := a3 p hp
      refine ⟨fun q => ?_, by omega⟩
      rw [q, kw] at p2
      exact absurd p2 (by decide)
  · have hk2 : k = l.length := by
      have := (List.getElem?_eq_some_iff.mp he).1
      rw [List.length_append] at this
      have h1 : ([(i, j, (x.toInt64, y.toInt64, u.toInt64, v.toInt64))] : List (Nat × Nat × q_cs)).length = 1 := rfl
      omega
    subst hk2
    rw [List.getElem?_append_right (Nat.le_refl _), Nat.sub_self] at he
    cases he
    exact ⟨w, x, y, u, v, hw, rfl, hs, Or.inl h7⟩
/-- how far the search has come -/
def srI (z : Nat) (W : q_W) (t1 : Int) (kb : Int32) (Z0 : q_Z) (M0 : q_C) (l : List (Nat × Nat × q_cs)) (Z : q_Z) (M : q_C) : Prop := zx z Z0 Z ∧ bfr z M0 M ∧ zR Z M z ∧ (kb = 0 → Z = Z0 ∧ q_ag (fun a => a = z + 16 ∨ z + 53 ≤ a) M0 M) ∧ (kb ≠ 0 → B_kp M z W.S t1 l)
theorem amv.dy {z : Nat} {M M' : q_C} (a : amv z M M') : q_ag (fun a => a = z + 16 ∨ z + 53 ≤ a) M M' := a.1.wk (fun x hx => by omega)
theorem srI.mv {z : Nat} {W : q_W} {t1 : Int} {kb : Int32} {Z0 Z : q_Z} {M0 M M' : q_C} {l : List (Nat × Nat × q_cs)} (h : srI z W t1 kb Z0 M0 l Z M) (hl : l.length ≤ 100) (a : amv z M M') : srI z W t1 kb Z0 M0 l Z M' :=
  ⟨h.1, h.2.1.tr a.fr, h.2.2.1.mv (fun x hx => by rw [a.2]), fun q => ⟨(h.2.2.2.1 q).1, (h.2.2.2.1 q).2.tr a.dy⟩, fun q => (h.2.2.2.2 q).ag h.2.2.1 hl a.dy (Or.inl rfl) (fun x hx => Or.inr hx)⟩
theorem e_srch1 {z : Nat} {W : q_W} {p : Nat × Nat} {but kb : Int32} {Z0 : q_Z} {M0 : q_C} (hB0 : BF Z0 M0 z W) (hW : okW W) (hp : W.ba = some p) (hb : but ≠ nI p.2) {i : Nat} (hi : i < W.gN) : ∀ (d j f : Nat) (Z : q_Z) (M : q_C), j + d = W.gN → d + 1 < f → srI z W (W.sg p.1 1).toInt kb Z0 M0 (krows (trF W p but) (trV W p) W.gN i ++ krow (trF W p but) (trV W p) i j) Z M →
    ∃ (Z' : q_Z) (M' : q_C), q_it (fun x : Int32 × Int32 × q_Z × q_C => fX6_search_L17 z but kb (nI i) x.1 x.2.1 x.2.2.1 x.2.2.2) f (nI (krows (trF W p but) (trV W p) W.gN i ++ krow (trF W p but) (trV W p) i j).length, nI j, Z, M) = some (nI (krows (trF W p but) (trV W p) W.gN (i + 1)).length, Z', M') ∧ srI z W (W.sg p.1 1).toInt kb Z0 M0 (krows (trF W p but) (trV W p) W.gN (i + 1)) Z' M' := by
  have hN := hW.2.2.2.1
  intro d
  induction d with
  | zero =>
    intro j f Z M h1 h2 h3
    obtain ⟨f, rfl⟩ : ∃ y, f = y + 1 := ⟨f - 1, by omega⟩
    obtain rfl : j = W.gN := by omega
    refine ⟨Z, M, q_it_x ?_, h3⟩
    have hB := hB0.mv h3.1 h3.2.1
    show fX6_search_L17 z but kb (nI i) _ (nI W.gN) Z M = _
    unfold fX6_search_L17
    rw [q_gdk hB.1.1, hB.2.2.2.2.2.1.2.2, if_pos (Int32.le_refl _)]
    rfl
  | succ d ih =>
    intro j f Z M h1 h2 h3
    obtain ⟨f, rfl⟩ : ∃ y, f = y + 1 := ⟨f - 1, by omega⟩
    have hj : j < W.gN := by omega
    have hB := hB0.mv h3.1 h3.2.1
    have hlt := kr_lt (F := trF W p but) (V := trV W p) hN.2.2 hi hj
    generalize hl : krows (trF W p but) (trV W p) W.gN i ++ krow (trF W p but) (trV W p) i j = l at h3 hlt
    have hl2 : krows (trF W p but) (trV W p) W.gN i ++ krow (trF W p but) (trV W p) i (j + 1) = l ++ (if trF W p but i j = true then [(i, j, trV W p i j)] else []) := by
      rw [← hl, List.append_assoc]; rfl
    have hcmp : ¬ gI M z 8 ≤ nI j := by rw [hB.2.2.2.2.2.1.2.2]; exact nI_ge hj (by omega)
    obtain ⟨M1, a1, a2, a3⟩ := e_tries hB hW hp hb hi hj (α := (Int32 × Int32 × q_Z × q_C) ⊕ (Int32 × q_Z × q_C)) (fun M' => fX6_search_b57 z but kb (nI l.length) (nI i) (nI j) Z M') (fun M' => if kb = 0 then fX6_search_b54 z but kb (nI l.length) (nI i) (nI j) Z M' else q_b2 (fX6_store z (nI l.length) Z M') fun Z_15 M_14 => fX6_search_b54 z but kb (nI l.length) (nI i) (nI j) Z_15 M_14)
    have body : fX6_search_L17 z but kb (nI i) (nI l.length) (nI j) Z M = (if trF W p but i j = true then (if kb = 0 then fX6_search_b54 z but kb (nI l.length) (nI i) (nI j) Z M1 else q_b2 (fX6_store z (nI l.length) Z M1) fun Z_15 M_14 => fX6_search_b54 z but kb (nI l.length) (nI i) (nI j) Z_15 M_14) else fX6_search_b57 z but kb (nI l.length) (nI i) (nI j) Z M1) := by
      rw [← a2, fX6_search_L17, q_gdk hB.1.1, if_neg hcmp]
    have h4 := h3.mv (by omega) a1
    cases hF : trF W p but i j with
    | false =>
      rw [hF, if_neg (by decide)] at body hl2
      rw [List.append_nil] at hl2
      unfold fX6_search_b57 at body
      simp only [q_nm] at body
      rw [nI_1] at body
      rw [q_it_s (y := (nI l.length, nI (j + 1), Z, M1)) body]
      have := ih (j + 1) f Z M1 (by omega) (by omega) (by rw [hl2]; exact h4)
      rw [hl2] at this
      exact this
    | true =>
      rw [hF, if_pos rfl] at body hl2
      obtain ⟨x, y, u, v, b1, b2, b3⟩ := a3 hF
      have hlen : (l ++ [(i, j, trV W p i j)]).length = l.length + 1 := by rw [List.length_append]; rfl
      by_cases hkb : kb = 0
      · rw [if_pos hkb] at body
        unfold fX6_search_b54 fX6_search_b57 at body
        simp only [q_nm] at body
        rw [nI_1, nI_1] at body
        rw [q_it_s (y := (nI (l.length + 1), nI (j + 1), Z, M1)) body]
        have := ih (j + 1) f Z M1 (by omega) (by omega) (by rw [hl2]; exact ⟨h4.1, h4.2.1, h4.2.2.1, h4.2.2.2.1, fun q => absurd hkb q⟩)
        rw [hl2, hlen] at this
        exact this
      · rw [if_neg hkb] at body
        have hz1 := hB.1.mv a1.2
        obtain ⟨Z2, M2, w, s1, s2, s3, s4, s5, s6, s7, s8, s9, s10⟩ := e_store hz1 h4.2.2.1 hlt b2
        rw [s1, q_b2s] at body
        unfold fX6_search_b54 fX6_search_b57 at body
        simp only [q_nm] at body
        rw [nI_1, nI_1] at body
        rw [q_it_s (y := (nI (l.length + 1), nI (j + 1), Z2, M2)) body]
        have hfr : bfr z M1 M2 := ⟨s9.wk (fun a ha => by omega), fun a q1 q2 => (s9 a (by omega)).2.2⟩
        rw [sp_of (W.sg p.1 1)] at s5
        have hkp := B_kp.more (h4.2.2.2.2 hkb) hlt s3 s4 s5 s6 s8 s9
        rw [← b1] at hkp
        have := ih (j + 1) f Z2 M2 (by omega) (by omega) (by rw [hl2]; exact ⟨h4.1.tr s2, h4.2.1.tr hfr, s3, fun q => absurd q hkb, fun _ => hkp⟩)
        rw [hl2, hlen] at this
        exact this
/-- the class's search -/
theorem e_srch {z : Nat} {W : q_W} {p : Nat × Nat} {but kb : Int32} {Z0 : q_Z} {M0 : q_C} (hB0 : BF Z0 M0 z W) (hR0 : zR Z0 M0 z) (hW : okW W) (hp : W.ba = some p) (hb : but ≠ nI p.2) :
    ∃ (Z' : q_Z) (M' : q_C), fX6_search z but kb Z0 M0 = some (nI (krows (trF W p but) (trV W p) W.gN W.gN).length, Z', M') ∧ srI z W (W.sg p.1 1).toInt kb Z0 M0 (krows (trF W p but) (trV W p) W.gN W.gN) Z' M' := by
  have hN := hW.2.2.2.1
  have loop : ∀ (d i f : Nat) (Z : q_Z) (M : q_C), i + d = W.gN → d + 1 < f → srI z W (W.sg p.1 1).toInt kb Z0 M0 (krows (trF W p but) (trV W p) W.gN i) Z M →
      ∃ (Z' : q_Z) (M' : q_C), q_it (fun x : Int32 × Int32 × q_Z × q_C => fX6_search_L5 z but kb x.1 x.2.1 x.2.2.1 x.2.2.2) f (nI (krows (trF W p but) (trV W p) W.gN i).length, nI i, Z, M) = some (nI (krows (trF W p but) (trV W p) W.gN W.gN).length, Z', M') ∧ srI z W (W.sg p.1 1).toInt kb Z0 M0 (krows (trF W p but) (trV W p) W.gN W.gN) Z' M' := by
    intro d
    induction d with
    | zero =>
      intro i f Z M h1 h2 h3
      obtain ⟨f, rfl⟩ : ∃ y, f = y + 1 := ⟨f - 1, by omega⟩
      obtain rfl : i = W.gN := by omega
      refine ⟨Z, M, q_it_x ?_, h3⟩
      have hB := hB0.mv h3.1 h3.2.1
      show fX6_search_L5 z but kb _ (nI W.gN) Z M = _
      unfold fX6_search_L5
      rw [q_gdk hB.1.1, hB.2.2.2.2.2.1.2.2, if_pos (Int32.le_refl _)]
    | succ d ih =>
      intro i f Z M h1 h2 h3
      obtain ⟨f, rfl⟩ : ∃ y, f = y + 1 := ⟨f - 1, by omega⟩
      have hB := hB0.mv h3.1 h3.2.1
      obtain ⟨Z1, M1, a1, a2⟩ := e_srch1 (kb := kb) hB0 hW hp hb (i := i) (by omega) W.gN 0 q_FU Z M (by omega) (by unfold q_FU; omega) (by rw [show krow (trF W p but) (trV W p) i 0 = [] from rfl, List.append_nil]; exact h3)
      rw [show krow (trF W p but) (trV W p) i 0 = [] from rfl, List.append_nil, nI_0] at a1
      have hcmp : ¬ gI M z 8 ≤ nI i := by rw [hB.2.2.2.2.2.1.2.2]; exact nI_ge (by omega) (by omega)
      have body : fX6_search_L5 z but kb (nI (krows (trF W p but) (trV W p) W.gN i).length) (nI i) Z M = some (.inl (nI (krows (trF W p but) (trV W p) W.gN (i + 1)).length, nI (i + 1), Z1, M1)) := by
        unfold fX6_search_L5 fX6_search_b63
        rw [q_gdk hB.1.1, if_neg hcmp, a1, q_bis]
        simp only [q_nm]
        rw [nI_1]
      rw [q_it_s (y := (_, nI (i + 1), Z1, M1)) body]
      exact ih (i + 1) f Z1 M1 (by omega) (by omega) a2
  obtain ⟨Z', M', a1, a2⟩ := loop W.gN 0 q_FU Z0 M0 (by omega) (by unfold q_FU; omega) ⟨zx.rf, bfr.rf, hR0, fun _ => ⟨rfl, q_ag.rf⟩, fun _ k e he => by cases he⟩
  refine ⟨Z', M', ?_, a2⟩
  rw [show krows (trF W p but) (trV W p) W.gN 0 = [] from rfl, nI_0] at a1
  unfold fX6_search fX6_search_b69
  rw [show nI ([] : List (Nat × Nat × q_cs)).length = (0 : Int32) from rfl] at a1
  rw [a1, q_bis]
  rfl
