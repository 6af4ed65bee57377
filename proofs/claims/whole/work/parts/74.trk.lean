/-! tracing, in the world -/
def trd (M : q_C) (z k : Nat) : Prop := ∃ w, gR M (z + 16) k = some w ∧ gI M w 7 = 1
abbrev trp (z : Nat) : Nat → Prop := fun a => a ≤ z + 16 ∨ (z + 18 ≤ a ∧ a ≤ z + 52)
theorem okW.kl {W : q_W} (hW : okW W) : W.K.length ≤ 100 := hW.2.2.2.2.2.1
theorem okW.kc {W : q_W} (hW : okW W) (h : 0 < W.K.length) : w_kc W = nI W.K.length := by
  unfold w_kc
  cases hk : W.kd with
  | true => rw [if_pos rfl]
  | false =>
    have := hW.2.2.2.2.1 hk
    rw [this] at h
    exact absurd h (by simp)
theorem okW.kle {W : q_W} (hW : okW W) {k : Nat} (hk : k ≤ 1000) : w_kc W ≤ nI k ↔ W.K.length ≤ k := by
  have hl := hW.kl
  by_cases h : 0 < W.K.length
  · rw [hW.kc h, Int32.le_iff_toInt_le, nI_toInt (by omega), nI_toInt (by omega)]
    omega
  · have h0 : W.K.length = 0 := by omega
    unfold w_kc
    rw [h0]
    constructor
    · intro _; omega
    · intro _
      split
      · exact nI_le (by omega) (by omega)
      · rw [Int32.le_iff_toInt_le, nI_toInt (by omega), show (-1 : Int32).toInt = -1 from rfl]
        omega
theorem okW.kin {W : q_W} (hW : okW W) (v : Int32) : (v < 0 ∨ w_kc W ≤ v) ∨ ∃ k, k < W.K.length ∧ v = nI k := by
  have hl := hW.kl
  by_cases h0 : v < 0
  · exact Or.inl (Or.inl h0)
  · by_cases h1 : w_kc W ≤ v
    · exact Or.inl (Or.inr h1)
    · right
      rw [Int32.lt_iff_toInt_lt, show (0 : Int32).toInt = 0 from rfl] at h0
      have e : v = nI v.toInt.toNat := i_eq (by rw [nI_toInt (by have := Int32.toInt_lt v; omega)]; omega)
      have hp : 0 < W.K.length := by
        rcases Nat.eq_zero_or_pos W.K.length with q | q
        · exfalso
          apply h1
          unfold w_kc
          rw [q, Int32.le_iff_toInt_le]
          split
          · rw [nI_toInt (by omega)]; omega
          · rw [show (-1 : Int32).toInt = -1 from rfl]; omega
        · exact q
      rw [hW.kc hp, Int32.le_iff_toInt_le, nI_toInt (by omega)] at h1
      exact ⟨v.toInt.toNat, by omega, e⟩
theorem e_kw {Z : q_Z} {M : q_C} {z : Nat} {W : q_W} (hB : BF Z M z W) (hW : okW W) {k : Nat} (hk : k < W.K.length) : fX6_keptWay z (nI k) Z M = some (gR M (z + 16) k) := by
  have hl := hW.kl
  obtain ⟨hz, _, _, _, _, _, h10, _⟩ := hB
  unfold fX6_keptWay fX6_keptWay_b31
  rw [if_neg (nI_pos (by omega)), q_gdk hz.1, h10, if_neg (by rw [hW.kle (by omega)]; omega), hz.2.1.2.2.2.1, q_bis, q_gdk hz.2.2.2.2.2.1.1, hz.2.2.2.2.2.1.2, if_neg (nI_ge (by omega) (by omega)), q_bis, q_gdc (q_okT hz.2.2.2.2.2.1.1 rfl (by omega) (by rw [hz.2.2.2.2.2.1.2]; omega)), nI_clamp (by omega)]
theorem e_kw0 {Z : q_Z} {M : q_C} {z : Nat} {W : q_W} (hB : BF Z M z W) {v : Int32} (hv : v < 0 ∨ w_kc W ≤ v) : fX6_keptWay z v Z M = some none := by
  obtain ⟨hz, _, _, _, _, _, h10, _⟩ := hB
  unfold fX6_keptWay fX6_keptWay_b30 fX6_keptWay_b31
  by_cases h0 : v < 0
  · rw [if_pos h0]
  · rw [if_neg h0, q_gdk hz.1, h10, if_pos (hv.resolve_left h0)]
theorem e_trfin {Z Z' : q_Z} {M M' : q_C} {z k w p : Nat} {W : q_W} {e : Nat × Nat × q_cs} {x y u v : Int32} (hB : BW Z M z W) (hW : okW W) (he : W.K[k]? = some e) (hw : gR M (z + 16) k = some w) (he2 : e.2.2 = (x.toInt64, y.toInt64, u.toInt64, v.toInt64)) (hp : gR M w 10 = some p ∨ p = zS Z) (hR' : zR Z' M' z) (hz : zx z Z Z') (ha : q_ag (fun a => a ≠ w ∧ a ≠ z + 17 ∧ a ≠ p) M M') (hr : M'.2.2 (z + 17) = M.2.2 (z + 17)) (hs : wst M' w (nI e.1) (nI e.2.1) x y u v (sp W.t0)) (h7 : gI M' w 7 = 1) (ht : B_tr M' w W.T W.t0 e.2.2) :
    BW Z' M' z W ∧ q_ag (trp z) M M' ∧ trd M' z k ∧ ∀ k', k' < W.K.length → trd M z k' → trd M' z k' := by
  obtain ⟨hF, hR, hK⟩ := hB
  have hl := hW.kl
  have hk : k < W.K.length := (List.getElem?_eq_some_iff.mp he).1
  obtain ⟨a1, a2, a3⟩ := hR.1 k w (by omega) hw
  have hp53 : z + 53 ≤ p := by
    rcases hp with q | q
    · exact (a3 p q).1
    · rw [q]; exact hR.ge
  have hagt : q_ag (trp z) M M' := ha.wk (fun a q => by unfold trp at q; omega)
  have hr16 : ∀ q, gR M' (z + 16) q = gR M (z + 16) q := fun q => ha.R (by omega) q
  have hne : ∀ k' w', k' < 100 → k' ≠ k → gR M (z + 16) k' = some w' → w' ≠ w ∧ w' ≠ z + 17 ∧ w' ≠ p ∧ ∀ p', gR M w' 10 = some p' → p' ≠ w ∧ p' ≠ z + 17 ∧ p' ≠ p := by
    intro k' w' q1 q2 q3
    obtain ⟨b1, b2, b3⟩ := hR.1 k' w' q1 q3
    refine ⟨fun q => q2 (hR.2.1 k' k w' q1 (by omega) q3 (by rw [q]; exact hw)), by omega, ?_, fun p' hp' => ?_⟩
    · rcases hp with q | q
      · intro q4; have := (a3 p q).2.1; rw [← q4] at this; omega
      · rw [q]; exact hR.ne (by omega)
    · obtain ⟨c1, c2, c3⟩ := b3 p' hp'
      refine ⟨fun q4 => by rw [q4] at c2; omega, by omega, ?_⟩
      rcases hp with q | q
      · intro q4
        rw [q4] at hp'
        exact q2 (hR.2.2.1 k' k w' w p q1 (by omega) q3 hw hp' q)
      · rw [q]; exact hR.ne (by omega)
  refine ⟨⟨hF.mv hz ⟨ha.wk (fun a q => by omega), fun a q1 q2 => ?_⟩, hR', fun k' e' he' => ?_⟩, hagt, ⟨w, by rw [hr16]; exact hw, h7⟩, fun k' hk' hd => ?_⟩
  · by_cases q : a = z + 17
    · rw [q]; exact hr
    · exact (ha a (by omega)).2.2
  · by_cases q : k' = k
    · subst q
      rw [he] at he'
      cases he'
      exact ⟨w, x, y, u, v, by rw [hr16]; exact hw, he2, hs, Or.inr ⟨h7, ht⟩⟩
    · have hk' : k' < W.K.length := (List.getElem?_eq_some_iff.mp he').1
      obtain ⟨w', x', y', u', v', b1, b2, b3, b4⟩ := hK k' e' he'
      obtain ⟨n1, n2, n3, n4⟩ := hne k' w' (by omega) q b1
      refine ⟨w', x', y', u', v', by rw [hr16]; exact b1, b2, b3.ag ha ⟨n1, n2, n3⟩, ?_⟩
      rw [ha.I ⟨n1, n2, n3⟩]
      rcases b4 with q4 | ⟨q4, q5⟩
      · exact Or.inl q4
      · exact Or.inr ⟨q4, q5.ag ha ⟨n1, n2, n3⟩ n4⟩
  · obtain ⟨w', d1, d2⟩ := hd
    by_cases q : k' = k
    · subst q
      exact ⟨w, by rw [hr16]; exact hw, h7⟩
    · obtain ⟨n1, n2, n3, n4⟩ := hne k' w' (by omega) q d1
      exact ⟨w', by rw [hr16]; exact d1, by rw [ha.I ⟨n1, n2, n3⟩]; exact d2⟩
theorem e_trK {Z : q_Z} {M : q_C} {z k : Nat} {W : q_W} {e : Nat × Nat × q_cs} (hB : BW Z M z W) (hW : okW W) (he : W.K[k]? = some e) :
    ∃ (w : Nat) (Z' : q_Z) (M' : q_C), gR M (z + 16) k = some w ∧ zK Z w = 15 ∧ fX5_trace w (some (z + 8)) (some (z + 17)) Z M = some (Z', M') ∧ zx z Z Z' ∧ BW Z' M' z W ∧ q_ag (trp z) M M' ∧ trd M' z k ∧ ∀ k', k' < W.K.length → trd M z k' → trd M' z k' := by
  obtain ⟨hF, hR, hK⟩ := id hB
  have hl := hW.kl
  have hk : k < W.K.length := (List.getElem?_eq_some_iff.mp he).1
  obtain ⟨w, x, y, u, v, k1, k2, k3, k4⟩ := hK k e he
  obtain ⟨a1, a2, a3⟩ := hR.1 k w (by omega) k1
  have ht := hW.2.2.2.2.2.2.1
  have hnl : ¬ lost x.toInt64 y.toInt64 := by
    have := (hW.2.2.2.2.2.2.2 e (List.mem_of_getElem? he)).2.2
    rw [k2] at this
    exact this
  rcases k4 with k4 | ⟨k4, k5⟩
  · have hgo : ∀ (Z1 : q_Z) (M1 : q_C), zx z Z Z1 → q_ag (fun a => a < z + 17) M M1 → goW Z1 M1 (z + 17) (z + 8) W.T := fun Z1 M1 hz ha => by
      refine ⟨by rw [(hz _ (by omega)).1]; exact hF.1.2.2.2.2.2.2.1.1, hF.1.2.2.2.1.ex (fun a q1 q2 => hz a (by omega)) (fun a q1 q2 => (ha a (by omega)).2.2), hF.2.2.1.ag ha (fun i hi => by omega), hW.1.2, fun i hi => by omega⟩
    cases hp : gR M w 10 with
    | some p =>
      obtain ⟨p1, p2, p3⟩ := a3 p hp
      have hpw : p ≠ w := fun q => by rw [q] at p2; omega
      have ag3 : q_ag (fun a => a ≠ w) M (sI M w 7 1) := agn_I q_ag.rf _ _
      have g : trW Z (sI M w 7 1) w (z + 17) (z + 8) p W.T := ⟨hgo Z _ zx.rf (ag3.wk (fun a q => by omega)), ⟨a2, hp, p2, p3⟩, ⟨by omega, by omega, hpw⟩, fun i hi => by omega⟩
      have hs3 : wst (sI M w 7 1) w (nI e.1) (nI e.2.1) x y u v (sp W.t0) := by
        unfold wst
        rw [gI_k _ _ _ _ (by decide), gI_k _ _ _ _ (by decide), gI_k _ _ _ _ (by decide), gI_k _ _ _ _ (by decide), gI_k _ _ _ _ (by decide), gI_k _ _ _ _ (by decide), gI_k _ _ _ _ (by decide)]
        exact k3
      obtain ⟨M', b1, b2, b3, b4, b5⟩ := e_tr29 g hs3 hnl ht.1 ht.2
      rw [gI_same] at b4
      rw [← k2] at b2
      have r' : M'.2.2 = M.2.2 := b5.2
      refine ⟨w, Z, M', k1, a2, ?_, zx.rf, e_trfin hB hW he k1 k2 (Or.inl hp) (hR.mv (fun a _ => by rw [r'])) zx.rf ((ag3.wk (fun a q => q.1)).tr b5.1) (by rw [r']) b3 b4 b2⟩
      unfold fX5_trace
      rw [q_gdk a2, if_pos k4, q_gdc (by decide)]
      simp only [q_nm]
      rw [show gR (sI M w 7 1) w 10 = some p from hp, q_ons, b1]
    | none =>
      have hge := hR.ge
      have hnx := hR.nx 2 602
      have hw0 : w ≠ zS Z := hR.ne (by omega)
      have h0 := hR.2.2.2.2.2 _ (Nat.le_refl _)
      have hRn : ∀ {a : Nat}, zK Z a ≠ 0 → a ≠ zS Z := fun h => hR.ne h
      generalize hpz : zS Z = p at *
      have hk1 : zK (zN Z 2 602) p = 2 := by rw [← hpz]; exact zN_k _ _ _
      have hl1 : zL (zN Z 2 602) p = 602 := by rw [← hpz]; exact zN_l _ _ _
      have hw1 : zK (zN Z 2 602) w = 15 := by rw [zN_K _ _ _ (by rw [hpz]; exact hw0)]; exact a2
      have ag3 : q_ag (fun a => a ≠ w) M (sI M w 7 1) := agn_I q_ag.rf _ _
      have ag4 := cN_ag (sI M w 7 1) p
      generalize hM5 : sR (cN (sI M w 7 1) p) w 10 (some p) = M5
      have ag5 : q_ag (fun a => a ≠ w ∧ a ≠ p) M M5 := by
        rw [← hM5]
        exact ((ag3.wk (fun a q => q.1)).tr (ag4.wk (fun a q => q.2))).sR (fun q => q.1 rfl) _ _
      have i5 : ∀ q, gI M5 w q = gI (sI M w 7 1) w q := fun q => by rw [← hM5, gI_sR]; exact ag4.I hw0 q
      have g5 : gR M5 w 10 = some p := by rw [← hM5, gR_same]
      have g : trW (zN Z 2 602) M5 w (z + 17) (z + 8) p W.T := ⟨hgo _ _ hnx (ag5.wk (fun a q => by omega)), ⟨hw1, g5, hk1, hl1⟩, ⟨by omega, by omega, fun q => hw0 q.symm⟩, fun i hi => by omega⟩
      have hs3 : wst M5 w (nI e.1) (nI e.2.1) x y u v (sp W.t0) := by
        unfold wst
        rw [i5, i5, i5, i5, i5, i5, i5, gI_k _ _ _ _ (by decide), gI_k _ _ _ _ (by decide), gI_k _ _ _ _ (by decide), gI_k _ _ _ _ (by decide), gI_k _ _ _ _ (by decide), gI_k _ _ _ _ (by decide), gI_k _ _ _ _ (by decide)]
        exact k3
      obtain ⟨M', b1, b2, b3, b4, b5⟩ := e_tr29 g hs3 hnl ht.1 ht.2
      rw [i5, gI_same] at b4
      rw [← k2] at b2
      have r16 : ∀ q, gR M5 (z + 16) q = gR M (z + 16) q := fun q => ag5.R (by omega) q
      have hrow : ∀ k' w', k' < 100 → k' ≠ k → gR M5 (z + 16) k' = some w' → (gR M (z + 16) k' = some w' ∧ w' ≠ w ∧ w' ≠ p ∧ gR M5 w' 10 = gR M w' 10) := by
        intro k' w' q1 q2 q3
        rw [r16] at q3
        obtain ⟨e1, e2, e3⟩ := hR.1 k' w' q1 q3
        have n1 : w' ≠ w := fun q => q2 (hR.2.1 k' k w' q1 (by omega) q3 (by rw [q]; exact k1))
        have n2 : w' ≠ p := hRn (by omega)
        exact ⟨q3, n1, n2, ag5.R ⟨n1, n2⟩ 10⟩
      have c1 : cnt (rwb M5 z) 100 = cnt (rwb M z) 100 := cnt_eq (fun k' _ => by unfold rwb; rw [r16])
      have c2 : cnt (plb M5 z) 100 = cnt (plb M z) 100 + 1 := cnt_up (k0 := k) (by omega) (by unfold plb; rw [k1, q_bis, hp]; rfl) (by unfold plb; rw [r16, k1, q_bis, g5]; rfl) (fun k' q1 q => by
        unfold plb
        cases hq : gR M5 (z + 16) k' with
        | none => rw [r16] at hq; rw [hq]; rfl
        | some w' =>
          obtain ⟨e1, e2, e3, e4⟩ := hrow k' w' q1 q hq
          rw [e1, q_bis, q_bis, e4])
      have hR5 : zR (zN Z 2 602) M5 z := by
        refine ⟨?_, ?_, ?_, ?_, ?_, ?_⟩
        · intro k' w' q1 q2
          by_cases q : k' = k
          · subst q
            rw [r16, k1] at q2
            cases q2
            refine ⟨a1, hw1, fun p' hp' => ?_⟩
            rw [g5] at hp'
            cases hp'
            exact ⟨hge, hk1, hl1⟩
          · obtain ⟨e1, e2, e3, e4⟩ := hrow k' w' q1 q q2
            obtain ⟨f1, f2, f3⟩ := hR.1 k' w' q1 e1
            refine ⟨f1, by rw [zN_K _ _ _ (by rw [hpz]; exact e3)]; exact f2, fun p' hp' => ?_⟩
            rw [e4] at hp'
            obtain ⟨p1, p2, p3⟩ := f3 p' hp'
            have hpn : p' ≠ zS Z := by rw [hpz]; exact hRn (by omega)
            exact ⟨p1, by rw [zN_K _ _ _ hpn]; exact p2, by rw [zN_L _ _ _ hpn]; exact p3⟩
        · intro q1 q2 w' q3 q4 q5 q6
          rw [r16] at q5 q6
          exact hR.2.1 q1 q2 w' q3 q4 q5 q6
        · intro q1 q2 w1 w2 p' h1 h2 h3 h4 h5 h6
          by_cases e1 : q1 = k
          · by_cases e2 : q2 = k
            · omega
            · obtain ⟨f1, f2, f3, f4⟩ := hrow q2 w2 h2 e2 h4
              subst e1
              rw [r16, k1] at h3
              cases h3
              rw [g5] at h5
              cases h5
              rw [f4] at h6
              have := ((hR.1 q2 w2 h2 f1).2.2 p h6).2.1
              omega
          · obtain ⟨f1, f2, f3, f4⟩ := hrow q1 w1 h1 e1 h3
            by_cases e2 : q2 = k
            · subst e2
              rw [r16, k1] at h4
              cases h4
              rw [g5] at h6
              cases h6
              rw [f4] at h5
              have := ((hR.1 q1 w1 h1 f1).2.2 p h5).2.1
              omega
            · obtain ⟨f5, f6, f7, f8⟩ := hrow q2 w2 h2 e2 h4
              rw [f4] at h5
              rw [f8] at h6
              exact hR.2.2.1 q1 q2 w1 w2 p' h1 h2 f1 f5 h5 h6
        · have := hR.2.2.2.1
          rw [c1, c2, show zS (zN Z 2 602) = zS Z + 1 from rfl]
          omega
        · have := hR.2.2.2.2.1
          rw [c1, c2, show zC (zN Z 2 602) = zC Z + 602 from rfl]
          omega
        · intro a ha
          have hs' : zS (zN Z 2 602) = zS Z + 1 := rfl
          rw [zN_K _ _ _ (by omega)]
          exact hR.2.2.2.2.2 a (by omega)
      have r' : M'.2.2 = M5.2.2 := b5.2
      refine ⟨w, zN Z 2 602, M', k1, a2, ?_, hnx, e_trfin hB hW he k1 k2 (Or.inr hpz.symm) (hR5.mv (fun a _ => by rw [r'])) hnx ((ag5.wk (fun a q => ⟨q.1, q.2.2⟩)).tr b5.1) (by rw [r']; exact (ag5 (z + 17) (by omega)).2.2) b3 b4 b2⟩
      unfold fX5_trace fX5_trace_b26
      rw [q_gdk a2, if_pos k4, q_gdc (by decide)]
      simp only [q_nm]
      rw [show gR (sI M w 7 1) w 10 = none from hp, q_onn, hpz, q_gdk h0, q_gdk hw1, hM5, b1]
  · refine ⟨w, Z, M, k1, a2, ?_, zx.rf, hB, q_ag.rf, ⟨w, k1, k4⟩, fun _ _ h => h⟩
    unfold fX5_trace
    rw [q_gdk a2, if_neg (by rw [k4]; decide)]
theorem e_tracedW {Z : q_Z} {M : q_C} {z k : Nat} {W : q_W} (hB : BW Z M z W) (hW : okW W) (hk : k < W.K.length) :
    ∃ (w : Nat) (Z' : q_Z) (M' : q_C), fX6_tracedWay z (nI k) Z M = some (some w, Z', M') ∧ gR M' (z + 16) k = some w ∧ zx z Z Z' ∧ BW Z' M' z W ∧ q_ag (trp z) M M' ∧ trd M' z k := by
  obtain ⟨w, Z', M', a1, a2, a3, a4, a5, a6, a7, a8⟩ := e_trK hB hW (List.getElem?_eq_getElem hk)
  refine ⟨w, Z', M', ?_, by rw [a6.R (Or.inl (by omega))]; exact a1, a4, a5, a6, a7⟩
  unfold fX6_tracedWay fX6_tracedWay_b22
  have hz := hB.1.1
  rw [q_gdk hz.1, e_kw hB.1 hW hk, q_bis, a1, q_ons, hz.2.1.2.1, q_bis, hz.2.1.2.2.2.2.1, q_bis, q_gdk a2, a3, q_b2s]
theorem e_tracedW0 {Z : q_Z} {M : q_C} {z : Nat} {W : q_W} (hB : BW Z M z W) {v : Int32} (hv : v < 0 ∨ w_kc W ≤ v) : fX6_tracedWay z v Z M = some (none, Z, M) := by
  unfold fX6_tracedWay fX6_tracedWay_b22
  rw [q_gdk hB.1.1.1, e_kw0 hB.1 hv, q_bis, q_onn]
theorem e_trAL {z : Nat} {W : q_W} (hW : okW W) : ∀ (d k f : Nat) (Z : q_Z) (M : q_C), k + d = W.K.length → d + 1 < f → BW Z M z W → (∀ q, q < k → trd M z q) →
    ∃ (Z' : q_Z) (M' : q_C), q_it (fun x : Int32 × q_Z × q_C => fX6_traceAll_L2 z x.1 x.2.1 x.2.2) f (nI k, Z, M) = some (Z', M') ∧ zx z Z Z' ∧ BW Z' M' z W ∧ q_ag (trp z) M M' ∧ ∀ q, q < W.K.length → trd M' z q := by
  have hl := hW.kl
  intro d
  induction d with
  | zero =>
    intro k f Z M h1 h2 h3 h4
    obtain ⟨f, rfl⟩ : ∃ y, f = y + 1 := ⟨f - 1, by omega⟩
    refine ⟨Z, M, q_it_x ?_, zx.rf, h3, q_ag.rf, fun q hq => h4 q (by omega)⟩
    show fX6_traceAll_L2 z (nI k) Z M = _
    unfold fX6_traceAll_L2
    rw [q_gdk h3.1.1.1, h3.1.2.2.2.2.2.2.1, if_pos (by rw [hW.kle (by omega)]; omega)]
  | succ d ih =>
    intro k f Z M h1 h2 h3 h4
    obtain ⟨f, rfl⟩ : ∃ y, f = y + 1 := ⟨f - 1, by omega⟩
    have hk : k < W.K.length := by omega
    obtain ⟨w, Z1, M1, a1, a2, a3, a4, a5, a6, a7, a8⟩ := e_trK h3 hW (List.getElem?_eq_getElem hk)
    have hz := h3.1.1
    have body : fX6_traceAll_L2 z (nI k) Z M = some (.inl (nI (k + 1), Z1, M1)) := by
      unfold fX6_traceAll_L2 fX6_traceAll_b32
      rw [q_gdk hz.1, h3.1.2.2.2.2.2.2.1, if_neg (by rw [hW.kle (by omega)]; omega), e_kw h3.1 hW hk, q_bis, a1, q_ons, hz.2.1.2.1, q_bis, hz.2.1.2.2.2.2.1, q_bis, q_gdk a2, a3, q_b2s]
      simp only [q_nm]
      rw [nI_1]
    rw [q_it_s (y := (nI (k + 1), Z1, M1)) body]
    obtain ⟨Z', M', b1, b2, b3, b4, b5⟩ := ih (k + 1) f Z1 M1 (by omega) (by omega) a5 (fun q hq => by
      by_cases e : q = k
      · rw [e]; exact a7
      · exact a8 q (by omega) (h4 q (by omega)))
    exact ⟨Z', M', b1, a4.tr b2, b3, a6.tr b4, b5⟩
theorem e_traceAll {Z : q_Z} {M : q_C} {z : Nat} {W : q_W} (hB : BW Z M z W) (hW : okW W) :
    ∃ (Z' : q_Z) (M' : q_C), fX6_traceAll z Z M = some (Z', M') ∧ zx z Z Z' ∧ BW Z' M' z W ∧ q_ag (trp z) M M' ∧ ∀ q, q < W.K.length → trd M' z q := by
  have hl := hW.kl
  obtain ⟨Z', M', b1, b2, b3, b4, b5⟩ := e_trAL hW W.K.length 0 q_FU Z M (by omega) (by unfold q_FU; omega) hB (fun q hq => by omega)
  rw [nI_0] at b1
  refine ⟨Z', M', ?_, b2, b3, b4, b5⟩
  unfold fX6_traceAll fX6_traceAll_b38
  rw [b1, q_bis]
  rfl
