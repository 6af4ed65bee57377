/-! the model's patch -/
theorem e_seen {Z : q_Z} {M : q_C} {m k : Nat} {W : q_W} (hB : MW Z M m W) (hW : okW W) (hk : k < W.K.length) {t : Int} (h1 : -300 ≤ t) (h2 : t ≤ 300) {p : Int64 × Int64} (hp : sdn W t k = some p) : fX7_seenAt m (nI k) (sp t) 0 Z M = some p.1 ∧ fX7_seenAt m (nI k) (sp t) 1 Z M = some p.2 := by
  unfold sdn at hp
  obtain ⟨c, hc, e⟩ := Option.map_eq_some_iff.mp hp
  obtain ⟨x1, x2, x3, x4⟩ := e_mX hB hW hk h1 h2 hc
  have t0 := e_then (w := 0) (ax := 0) hB.1.1 (by decide) (by decide) hB.1.2.2.1 (sp t)
  have t1 := e_then (w := 0) (ax := 1) hB.1.1 (by decide) (by decide) hB.1.2.2.1 (sp t)
  rw [nI_0, if_pos rfl] at t0
  rw [nI_0, show nI 1 = (1 : Int32) from rfl, if_neg (by decide)] at t1
  unfold fX7_seenAt fX7_seenAt_b15
  rw [if_pos rfl, if_neg (by decide), q_gdk hB.1.1.1, x1.1, q_bis, q_bis, i_ix h1 h2, q_gdc x1.2.1, q_gdk hB.1.1.1, t0, q_bis, x1.2.2, q_gdk hB.1.1.1, x2.1, q_bis, q_bis, q_gdc x2.2.1, q_gdk hB.1.1.1, t1, q_bis, x2.2.2, ← e]
  exact ⟨rfl, rfl⟩
theorem e_turn {Z : q_Z} {M : q_C} {m : Nat} {W : q_W} (hB : MW Z M m W) (hW : okW W) {a b : q_pt} (ha : a.1 < W.K.length) (hb : b.1 < W.K.length) {t : Int} (h1 : -300 ≤ t) (h2 : t ≤ 300) (sa : sdn W t a.1 = some a.2) (sb : sdn W t b.1 = some b.2) : fX7_turn m (nI a.1) (nI b.1) (sp t) Z M = some (crs a b) := by
  obtain ⟨a1, a2⟩ := e_seen hB hW ha h1 h2 sa
  obtain ⟨b1, b2⟩ := e_seen hB hW hb h1 h2 sb
  unfold fX7_turn
  rw [q_gdk hB.1.1.1, a1, q_bis, b2, q_bis, a2, q_bis, b1, q_bis]
  rfl
theorem sdn_s {W : q_W} {t : Int} {k : Nat} : (sdn W t k).isSome = (pth W k t).isSome := by
  unfold sdn
  cases pth W k t <;> rfl
theorem e_mThS {Z : q_Z} {M : q_C} {m k : Nat} {W : q_W} (hB : MW Z M m W) (hW : okW W) (hk : k < W.K.length) {t : Int} (h1 : -300 ≤ t) (h2 : t ≤ 300) : fX7_isThere m (nI k) (sp t) Z M = some (bi ((sdn W t k).isSome = true)) := by
  rw [e_mTh hB hW hk h1 h2, sdn_s]
theorem e_siI {Z : q_Z} {M : q_C} {m : Nat} {W : q_W} (hB : MW Z M m W) (hW : okW W) {a : q_pt} (ha : a.1 < W.K.length) {t : Int} (h1 : -300 ≤ t) (h2 : t ≤ 300) (sa : sdn W t a.1 = some a.2) (v : Int32) : ∀ (d o f : Nat), o + d = W.K.length → d + 2 < f →
    q_it (fun x : Int32 × Int32 => fX7_sideOf_L21 m (sp t) v (nI a.1) x.1 x.2 Z M) f (1, nI o) = some (bi (((lks (sdn W t) o d).all fun b => okE (!decide (v = 0)) b a) = true)) := by
  have hl := hW.kl
  intro d
  induction d with
  | zero =>
    intro o f h3 h4
    obtain ⟨f, rfl⟩ : ∃ y, f = y + 1 := ⟨f - 1, by omega⟩
    refine q_it_x ?_
    show fX7_sideOf_L21 m (sp t) v (nI a.1) 1 (nI o) Z M = _
    unfold fX7_sideOf_L21
    rw [q_gdk hB.1.1.1, hB.1.2.2.2.2.2.2.1, if_pos (by rw [hW.kle (by omega)]; omega)]
    rfl
  | succ d ih =>
    intro o f h3 h4
    obtain ⟨f, rfl⟩ : ∃ y, f = y + 1 := ⟨f - 1, by omega⟩
    have ho : o < W.K.length := by omega
    obtain ⟨X, hX⟩ : ∃ X, fX7_sideOf_L21 m (sp t) v (nI a.1) 1 (nI o) Z M = X := ⟨_, rfl⟩
    have pre := hX
    unfold fX7_sideOf_L21 fX7_sideOf_b78 fX7_sideOf_b82 fX7_sideOf_b83 at pre
    rw [q_gdk hB.1.1.1, hB.1.2.2.2.2.2.2.1, if_neg (by rw [hW.kle (by omega)]; omega), if_neg (by decide), e_mThS hB hW ho h1 h2, q_bis, bi_if] at pre
    simp only [q_nm] at pre
    rw [nI_1] at pre
    unfold lks
    cases hs : sdn W t o with
    | none =>
      rw [hs, if_neg (by decide)] at pre
      rw [q_it_s (y := (1, nI (o + 1))) (hX.trans pre.symm), ih (o + 1) f (by omega) (by omega)]
    | some p =>
      have et := e_turn hB hW (a := (o, p)) (b := a) ho ha h1 h2 hs sa
      dsimp only at et
      rw [hs, if_pos (show (some p).isSome = true from rfl), et, q_bis, q_bis] at pre
      dsimp only
      rw [List.all_cons]
      have st : ∀ f', 0 < f' → q_it (fun x : Int32 × Int32 => fX7_sideOf_L21 m (sp t) v (nI a.1) x.1 x.2 Z M) f' (0, nI (o + 1)) = some 0 := by
        intro f' hf'
        obtain ⟨f', rfl⟩ : ∃ y, f' = y + 1 := ⟨f' - 1, by omega⟩
        refine q_it_x ?_
        show fX7_sideOf_L21 m (sp t) v (nI a.1) 0 (nI (o + 1)) Z M = _
        unfold fX7_sideOf_L21
        rw [q_gdk hB.1.1.1, if_pos (show (0 : Int32) = 0 from rfl)]
        split <;> rfl
      have key : X = if okE (!decide (v = 0)) (o, p) a = true then some (Sum.inl (1, nI (o + 1))) else some (Sum.inl (0, nI (o + 1))) := by
        rw [← pre]
        unfold okE
        by_cases q : v = 0
        · have e1 : (!decide (v = 0)) = false := by rw [q]; decide
          rw [if_pos q, e1, if_neg (show ¬ (false = true) by decide)]
          by_cases c : 0 < crs (o, p) a
          · rw [if_pos c, if_neg (by simp [c])]
          · rw [if_neg c, if_pos (by simp [c])]
        · have e1 : (!decide (v = 0)) = true := by rw [decide_eq_false q]; rfl
          rw [if_neg q, e1, if_pos (show true = true from rfl)]
          by_cases c : crs (o, p) a < 0
          · rw [if_pos c, if_neg (by simp [c])]
          · rw [if_neg c, if_pos (by simp [c])]
      cases hk : okE (!decide (v = 0)) (o, p) a with
      | true =>
        rw [hk, if_pos rfl] at key
        rw [q_it_s (y := (1, nI (o + 1))) (hX.trans key), ih (o + 1) f (by omega) (by omega), Bool.true_and]
      | false =>
        rw [hk, if_neg (by decide)] at key
        rw [q_it_s (y := (0, nI (o + 1))) (hX.trans key), st f (by omega), Bool.false_and, bi_f (by decide)]
theorem e_siO {Z : q_Z} {M : q_C} {m : Nat} {W : q_W} (hB : MW Z M m W) (hW : okW W) {t : Int} (h1 : -300 ≤ t) (h2 : t ≤ 300) (v : Int32) : ∀ (d k f : Nat), k + d = W.K.length → d + 1 < f →
    ∃ o, q_it (fun x : Int32 => fX7_sideOf_L2 m (sp t) v x Z M) f (nI k) = some o ∧ q_sm o (fun e => some e) (fun _ => some (-1 : Int32)) = some (eR ((lks (sdn W t) k d).find? fun a => (LL W t).all fun b => okE (!decide (v = 0)) b a)) := by
  have hl := hW.kl
  intro d
  induction d with
  | zero =>
    intro k f h3 h4
    obtain ⟨f, rfl⟩ : ∃ y, f = y + 1 := ⟨f - 1, by omega⟩
    refine ⟨.inr (), q_it_x ?_, rfl⟩
    show fX7_sideOf_L2 m (sp t) v (nI k) Z M = _
    unfold fX7_sideOf_L2
    rw [q_gdk hB.1.1.1, hB.1.2.2.2.2.2.2.1, if_pos (by rw [hW.kle (by omega)]; omega)]
  | succ d ih =>
    intro k f h3 h4
    obtain ⟨f, rfl⟩ : ∃ y, f = y + 1 := ⟨f - 1, by omega⟩
    have hk : k < W.K.length := by omega
    obtain ⟨X, hX⟩ : ∃ X, fX7_sideOf_L2 m (sp t) v (nI k) Z M = X := ⟨_, rfl⟩
    have pre := hX
    unfold fX7_sideOf_L2 at pre
    rw [q_gdk hB.1.1.1, hB.1.2.2.2.2.2.2.1, if_neg (by rw [hW.kle (by omega)]; omega), e_mThS hB hW hk h1 h2, q_bis] at pre
    obtain ⟨o, b1, b2⟩ := ih (k + 1) f (by omega) (by omega)
    unfold lks
    cases hs : sdn W t k with
    | none =>
      have st : q_it (fun x : Int32 × Int32 => fX7_sideOf_L21 m (sp t) v (nI k) x.1 x.2 Z M) q_FU (0, 0) = some 0 := by
        refine q_it_x (n := 99999) ?_
        show fX7_sideOf_L21 m (sp t) v (nI k) 0 0 Z M = _
        unfold fX7_sideOf_L21
        rw [q_gdk hB.1.1.1, if_pos (show (0 : Int32) = 0 from rfl)]
        split <;> rfl
      rw [hs, bi_f (by decide), st, q_bis] at pre
      unfold fX7_sideOf_b91 at pre
      simp only [q_nm] at pre
      rw [if_pos trivial, nI_1] at pre
      exact ⟨o, by rw [q_it_s (y := nI (k + 1)) (hX.trans pre.symm)]; exact b1, b2⟩
    | some p =>
      have st := e_siI hB hW (a := (k, p)) hk h1 h2 hs v W.K.length 0 q_FU (by omega) (by unfold q_FU; omega)
      rw [nI_0] at st
      dsimp only at st
      rw [hs, bi_t (show (some p).isSome = true from rfl), st, q_bis] at pre
      unfold fX7_sideOf_b91 at pre
      simp only [q_nm] at pre
      rw [bi_if, nI_1] at pre
      dsimp only
      cases hc : (LL W t).all fun b => okE (!decide (v = 0)) b (k, p) with
      | true =>
        have hc' : ((lks (sdn W t) 0 W.K.length).all fun b => okE (!decide (v = 0)) b (k, p)) = true := hc
        rw [if_pos hc'] at pre
        refine ⟨_, q_it_x (hX.trans pre.symm), ?_⟩
        rw [List.find?_cons_of_pos (p := fun a => (LL W t).all fun b => okE (!decide (v = 0)) b a) hc]
        rfl
      | false =>
        have hc' : ¬ ((lks (sdn W t) 0 W.K.length).all fun b => okE (!decide (v = 0)) b (k, p)) = true := fun q => by
          rw [show (lks (sdn W t) 0 W.K.length) = LL W t from rfl, hc] at q
          cases q
        rw [if_neg hc'] at pre
        refine ⟨o, by rw [q_it_s (y := nI (k + 1)) (hX.trans pre.symm)]; exact b1, ?_⟩
        rw [List.find?_cons_of_neg (by rw [hc]; decide)]
        exact b2
theorem e_sideOf {Z : q_Z} {M : q_C} {m : Nat} {W : q_W} (hB : MW Z M m W) (hW : okW W) {t : Int} (h1 : -300 ≤ t) (h2 : t ≤ 300) (v : Int32) : fX7_sideOf m (sp t) v Z M = some (eR (edg (LL W t) (!decide (v = 0)))) := by
  have hl := hW.kl
  obtain ⟨o, b1, b2⟩ := e_siO hB hW h1 h2 v W.K.length 0 q_FU (by omega) (by unfold q_FU; omega)
  rw [nI_0] at b1
  unfold fX7_sideOf
  rw [b1, q_bis]
  exact b2
theorem e_isSoL {Z : q_Z} {M : q_C} {m : Nat} {W : q_W} (hB : MW Z M m W) (hW : okW W) {t : Int} (h1 : -300 ≤ t) (h2 : t ≤ 300) : ∀ (d k f : Nat) (c : Prop) [Decidable c], k + d = W.K.length → d + 1 < f →
    q_it (fun x : Int32 × Int32 => fX7_isSome_L4 m (sp t) x.1 x.2 Z M) f (bi c, nI k) = some (bi (c ∨ (lks (sdn W t) k d).length ≠ 0)) := by
  have hl := hW.kl
  intro d
  induction d with
  | zero =>
    intro k f c _ h3 h4
    obtain ⟨f, rfl⟩ : ∃ y, f = y + 1 := ⟨f - 1, by omega⟩
    refine q_it_x ?_
    show fX7_isSome_L4 m (sp t) (bi c) (nI k) Z M = _
    unfold fX7_isSome_L4
    rw [q_gdk hB.1.1.1, hB.1.2.2.2.2.2.2.1, if_pos (by rw [hW.kle (by omega)]; omega), bi_ii (c := c ∨ (lks (sdn W t) k 0).length ≠ 0) (d := c) ⟨fun q => q.elim id (fun q => absurd rfl q), Or.inl⟩]
  | succ d ih =>
    intro k f c _ h3 h4
    obtain ⟨f, rfl⟩ : ∃ y, f = y + 1 := ⟨f - 1, by omega⟩
    have hk : k < W.K.length := by omega
    have body : fX7_isSome_L4 m (sp t) (bi c) (nI k) Z M = some (.inl (bi (c ∨ (sdn W t k).isSome = true), nI (k + 1))) := by
      unfold fX7_isSome_L4 fX7_isSome_b25 fX7_isSome_b30
      rw [q_gdk hB.1.1.1, hB.1.2.2.2.2.2.2.1, if_neg (by rw [hW.kle (by omega)]; omega), bi_if, e_mThS hB hW hk h1 h2, q_bis, bi_if]
      simp only [q_nm]
      rw [nI_1]
      by_cases q : c
      · rw [if_pos q, bi_t (Or.inl q)]
      · rw [if_neg q]
        by_cases q2 : (sdn W t k).isSome = true
        · rw [if_pos q2, bi_t (Or.inr q2)]
        · have : ¬ (c ∨ (sdn W t k).isSome = true) := fun e => e.elim q q2
          rw [if_neg q2, bi_f this]
    rw [q_it_s (y := (bi (c ∨ (sdn W t k).isSome = true), nI (k + 1))) body, ih (k + 1) f (c ∨ (sdn W t k).isSome = true) (by omega) (by omega)]
    congr 1
    refine bi_ii ?_
    rw [or_assoc]
    refine or_congr_right ?_
    rw [show lks (sdn W t) k (d + 1) = (match sdn W t k with
      | none => lks (sdn W t) (k + 1) d
      | some p => (k, p) :: lks (sdn W t) (k + 1) d) from rfl]
    cases sdn W t k with
    | none => exact ⟨fun q => q.elim (fun q => by cases q) id, Or.inr⟩
    | some p => exact ⟨fun _ => by dsimp only; rw [List.length_cons]; omega, fun _ => Or.inl rfl⟩
theorem e_isSo {Z : q_Z} {M : q_C} {m : Nat} {W : q_W} (hB : MW Z M m W) (hW : okW W) {t : Int} (h1 : -300 ≤ t) (h2 : t ≤ 300) : fX7_isSome m (sp t) Z M = some (bi ((LL W t).length ≠ 0)) := by
  have hl := hW.kl
  have b := e_isSoL hB hW h1 h2 W.K.length 0 q_FU False (by omega) (by unfold q_FU; omega)
  rw [nI_0, bi_f (fun q => q)] at b
  unfold fX7_isSome
  rw [b, q_bis]
  simp only [q_nm]
  rw [bi_gd]
  congr 1
  exact bi_ii ⟨fun q => q.elim (fun q => q.elim) id, Or.inr⟩
theorem edg_m {L : List q_pt} {left : Bool} {a : q_pt} (h : edg L left = some a) : a ∈ L := List.mem_of_find?_eq_some h
theorem e_widthOf {Z : q_Z} {M : q_C} {m : Nat} {W : q_W} (hB : MW Z M m W) (hW : okW W) {t : Int} (h1 : -300 ≤ t) (h2 : t ≤ 300) : fX7_widthOf m (sp t) Z M = some (wdt (LL W t)) := by
  have hl := hW.kl
  have s1 := e_sideOf hB hW h1 h2 1
  have s0 := e_sideOf hB hW h1 h2 0
  rw [show (!decide ((1 : Int32) = 0)) = true by decide] at s1
  rw [show (!decide ((0 : Int32) = 0)) = false by decide] at s0
  unfold fX7_widthOf fX7_widthOf_b22
  rw [q_gdk hB.1.1.1, s1, q_bis, s0, q_bis]
  unfold wdt
  cases ha : edg (LL W t) true with
  | none => unfold eR; rw [if_pos (by decide)]
  | some a =>
    obtain ⟨_, a2, a3⟩ := lks_m _ _ (edg_m ha)
    have e1 : eR (some a) = nI a.1 := rfl
    rw [e1, if_neg (nI_pos (by omega))]
    cases hb : edg (LL W t) false with
    | none => unfold eR; rw [if_neg (by decide)]
    | some b =>
      obtain ⟨_, b2, b3⟩ := lks_m _ _ (edg_m hb)
      have e2 : eR (some b) = nI b.1 := rfl
      obtain ⟨u1, u2⟩ := e_seen hB hW (by omega) h1 h2 a3
      obtain ⟨v1, v2⟩ := e_seen hB hW (by omega) h1 h2 b3
      rw [e2, if_pos (nI_pos' (by omega)), u1, q_bis, v1, q_bis, u2, q_bis, v2, q_bis]
      simp only [q_nm]
      rw [e_turn hB hW (by omega) (by omega) h1 h2 a3 b3, q_bis]
      unfold fX7_widthOf_b82 fX7_widthOf_b122
      rw [show a.2.1 * b.2.1 + a.2.2 * b.2.2 = onn a b from rfl]
      have eab : (if (0 : Int64) ≤ crs a b then crs a b else -crs a b) = ab (crs a b) := rfl
      unfold wd2
      rw [← eab]
      by_cases c0 : 0 < onn a b
      · have hn0 : ¬ onn a b = 0 := fun q => by rw [q] at c0; exact absurd c0 (by decide)
        rw [if_pos c0, if_pos c0, if_pos c0, q_gdc (by simp [hn0]), q_gdc (by simp [hn0])]
        simp only [q_nm]
        by_cases c1 : (0 : Int64) ≤ crs a b
        · rw [if_pos c1, if_pos c1]
          split <;> rfl
        · rw [if_neg c1, if_neg c1]
          split <;> rfl
      · rw [if_neg c0, if_neg c0, if_neg c0]
        split <;> rfl
