/-! period, span -/
def sqo (o : Option q_cs) : Int64 := match o with
  | none => 0
  | some c => c.1 * c.1 + c.2.1 * c.2.1
abbrev pss (P : Int → Option q_cs) (t : Int) : Prop := ¬ (sqo (P (t - 1)) ≤ sqo (P t)) ∧ ¬ (sqo (P (t + 1)) < sqo (P t))
def prd (P : Int → Option q_cs) : Nat → Int → Int32 → Int32
  | 0, _, _ => 0
  | d + 1, t, p => if ((P 0).isSome = true ∧ (P (t + 1)).isSome = true) ∧ pss P t then (if p ≤ 0 then prd P d (t + 1) (sp t) else sp t - p) else prd P d (t + 1) p
theorem prd_n {P : Int → Option q_cs} : ∀ (d : Nat) (t : Int) (p : Int32), (∀ u, t < u → u ≤ t + d → ¬ ((P 0).isSome = true ∧ (P u).isSome = true)) → prd P d t p = 0 := by
  intro d
  induction d with
  | zero => intro t p _; rfl
  | succ d ih =>
    intro t p h
    unfold prd
    rw [if_neg (fun q => h (t + 1) (by omega) (by omega) q.1)]
    exact ih (t + 1) p (fun u q1 q2 => h u (by omega) (by omega))
theorem pth_in {Z : q_Z} {M : q_C} {m k : Nat} {W : q_W} (hB : MW Z M m W) (hk : k < W.K.length) {u v : Int} (h0 : 0 ≤ u) (h1 : u ≤ v) (h2 : v ≤ 300) (p0 : (pth W k 0).isSome = true) (pv : (pth W k v).isSome = true) : (pth W k u).isSome = true := by
  have he := List.getElem?_eq_getElem hk
  generalize W.K[k] = e at he
  obtain ⟨_, _, lo, hi, b1, b2, b3, b4, b5, b6, b7⟩ := hB.2 k e he
  rw [pth_k he] at p0 pv ⊢
  have c1 := (b7 0 (by omega) (by omega)).1.mpr p0
  have c2 := (b7 v (by omega) (by omega)).1.mpr pv
  exact (b7 u (by omega) (by omega)).1.mp ⟨by omega, by omega⟩
theorem e_sqS {Z : q_Z} {M : q_C} {w k : Nat} {W : q_W} (hr : rdW Z M w k W) {t : Int} (h1 : -300 ≤ t) (h2 : t ≤ 300) (hs : (pth W k t).isSome = true) : fX5_squareFromSun w (sp t) Z M = some (sqo (pth W k t)) := by
  obtain ⟨r1, r2, r3⟩ := hr
  cases hc : pth W k t with
  | none => rw [hc] at hs; cases hs
  | some c =>
    obtain ⟨x1, x2, _, _⟩ := r3 t c h1 h2 hc
    obtain ⟨n1, n2⟩ := nl_x (pth_nl hc)
    unfold fX5_squareFromSun
    rw [q_gdk r1, x1, q_bis]
    simp only [q_nm]
    rw [x2, q_bis, n1, n2]
    rfl
theorem e_isPass {Z : q_Z} {M : q_C} {w k : Nat} {W : q_W} (hr : rdW Z M w k W) {t : Int} (h1 : 1 ≤ t) (h2 : t ≤ 299) (s1 : (pth W k (t - 1)).isSome = true) (s2 : (pth W k t).isSome = true) (s3 : (pth W k (t + 1)).isSome = true) : fX5_isPass w (sp t) Z M = some (bi (pss (pth W k) t)) := by
  unfold fX5_isPass fX5_isPass_b34 fX5_isPass_b35
  rw [q_gdk hr.1, e_sqS hr (by omega) (by omega) s2, q_bis, sp_m, e_sqS hr (by omega) (by omega) s1, q_bis, sp_1, e_sqS hr (by omega) (by omega) s3, q_bis]
  by_cases q1 : sqo (pth W k (t - 1)) ≤ sqo (pth W k t)
  · rw [if_pos q1, q_gdc (by decide), bi_f (fun q => q.1 q1)]
  · rw [if_neg q1]
    by_cases q2 : sqo (pth W k (t + 1)) < sqo (pth W k t)
    · rw [if_pos q2, q_gdc (by decide), bi_f (fun q => q.2 q2)]
    · have q3 : pss (pth W k) t := ⟨q1, q2⟩
      rw [if_neg q2, q_gdc (by decide), bi_t q3]
theorem e_ptC {Z : q_Z} {M : q_C} {w k : Nat} {W : q_W} (hr : rdW Z M w k W) (hin : ∀ u v, 0 ≤ u → u ≤ v → v ≤ 300 → (pth W k 0).isSome = true → (pth W k v).isSome = true → (pth W k u).isSome = true) : ∀ (d : Nat) (t : Int) (p : Int32) (f : Nat), t + d = 300 → 1 ≤ t → d + 1 < f →
    ∃ o, q_it (fun x : Int32 × Int32 => fX5_turnTime_L4 w x.1 x.2 Z M) f (p, sp t) = some o ∧ q_sm o (fun e => some (e.2 - e.1)) (fun _ => some (0 : Int32)) = some (prd (pth W k) d t p) := by
  intro d
  induction d with
  | zero =>
    intro t p f h1 h2 h3
    obtain ⟨f, rfl⟩ : ∃ y, f = y + 1 := ⟨f - 1, by omega⟩
    obtain rfl : t = 300 := by omega
    refine ⟨.inr (), q_it_x ?_, rfl⟩
    show fX5_turnTime_L4 w p (sp 300) Z M = _
    unfold fX5_turnTime_L4
    rw [if_pos (by decide)]
  | succ d ih =>
    intro t p f h1 h2 h3
    obtain ⟨f, rfl⟩ : ∃ y, f = y + 1 := ⟨f - 1, by omega⟩
    have hlt : ¬ (300 : Int32) ≤ sp t := by
      rw [Int32.le_iff_toInt_le, sp_T (by omega) (by omega), show (300 : Int32).toInt = 300 from rfl]
      omega
    have e1 : (sp (t + 1)).toInt = t + 1 := sp_T (by omega) (by omega)
    have pre : fX5_turnTime_L4 w p (sp t) Z M = (if (pth W k 0).isSome = true then (if (pth W k (t + 1)).isSome = true then Option.bind (fX5_isPass w (sp t) Z M) fun r_6 =>
        if r_6 = 0 then fX5_turnTime_b47 w p (sp t) Z M else if p ≤ 0 then fX5_turnTime_b47 w (sp t) (sp t) Z M else some (Sum.inr (Sum.inl (p, sp t))) else some (Sum.inr (Sum.inr ()))) else some (Sum.inr (Sum.inr ()))) := by
      unfold fX5_turnTime_L4
      rw [if_neg hlt, q_gdk hr.1, hr.2.1, q_bis, bi_if, sp_1, hr.2.1, q_bis, bi_if, e1]
      have a0 : ((-300 ≤ (0 : Int32).toInt ∧ (0 : Int32).toInt ≤ 300) ∧ (pth W k (0 : Int32).toInt).isSome = true) ↔ (pth W k 0).isSome = true := ⟨fun q => q.2, fun q => ⟨by decide, q⟩⟩
      have a1 : ((-300 ≤ t + 1 ∧ t + 1 ≤ 300) ∧ (pth W k (t + 1)).isSome = true) ↔ (pth W k (t + 1)).isSome = true := ⟨fun q => q.2, fun q => ⟨by omega, q⟩⟩
      by_cases c0 : (pth W k 0).isSome = true
      · rw [if_pos (a0.mpr c0), if_pos c0]
        by_cases c1 : (pth W k (t + 1)).isSome = true
        · rw [if_pos (a1.mpr c1), if_pos c1]
        · rw [if_neg (fun q => c1 (a1.mp q)), if_neg c1]
      · rw [if_neg (fun q => c0 (a0.mp q)), if_neg c0]
    by_cases c0 : (pth W k 0).isSome = true
    · by_cases c1 : (pth W k (t + 1)).isSome = true
      · have s2 := hin t (t + 1) (by omega) (by omega) (by omega) c0 c1
        have s1 := hin (t - 1) (t + 1) (by omega) (by omega) (by omega) c0 c1
        rw [if_pos c0, if_pos c1, e_isPass hr h2 (by omega) s1 s2 c1, q_bis, bi_if] at pre
        unfold fX5_turnTime_b47 at pre
        simp only [q_nm] at pre
        rw [sp_1] at pre
        by_cases c2 : pss (pth W k) t
        · rw [if_pos c2] at pre
          by_cases c3 : p ≤ 0
          · rw [if_pos c3] at pre
            obtain ⟨o, b1, b2⟩ := ih (t + 1) (sp t) f (by omega) (by omega) (by omega)
            refine ⟨o, by rw [q_it_s (y := (sp t, sp (t + 1))) pre]; exact b1, ?_⟩
            unfold prd
            rw [if_pos ⟨⟨c0, c1⟩, c2⟩, if_pos c3]
            exact b2
          · rw [if_neg c3] at pre
            refine ⟨_, q_it_x pre, ?_⟩
            unfold prd
            rw [if_pos ⟨⟨c0, c1⟩, c2⟩, if_neg c3]
            rfl
        · rw [if_neg c2] at pre
          obtain ⟨o, b1, b2⟩ := ih (t + 1) p f (by omega) (by omega) (by omega)
          refine ⟨o, by rw [q_it_s (y := (p, sp (t + 1))) pre]; exact b1, ?_⟩
          unfold prd
          rw [if_neg (fun q => c2 q.2)]
          exact b2
      · rw [if_pos c0, if_neg c1] at pre
        refine ⟨_, q_it_x pre, ?_⟩
        rw [prd_n (d + 1) t p (fun u q1 q2 q => c1 (hin (t + 1) u (by omega) (by omega) (by omega) q.1 q.2))]
        rfl
    · rw [if_neg c0] at pre
      refine ⟨_, q_it_x pre, ?_⟩
      rw [prd_n (d + 1) t p (fun u q1 q2 q => c0 q.1)]
      rfl
theorem e_tuC {Z : q_Z} {M : q_C} {w k : Nat} {W : q_W} (hr : rdW Z M w k W) (hin : ∀ u v, 0 ≤ u → u ≤ v → v ≤ 300 → (pth W k 0).isSome = true → (pth W k v).isSome = true → (pth W k u).isSome = true) : fX5_turnTime w Z M = some (prd (pth W k) 299 1 0) := by
  obtain ⟨o, b1, b2⟩ := e_ptC hr hin 299 1 0 q_FU (by omega) (by omega) (by unfold q_FU; omega)
  unfold fX5_turnTime
  rw [show sp 1 = (1 : Int32) from rfl] at b1
  rw [b1, q_bis]
  exact b2
theorem e_far {Z : q_Z} {M : q_C} {m k : Nat} {W : q_W} (hB : MW Z M m W) (hW : okW W) (hk : k < W.K.length) {t : Int} (h1 : -300 ≤ t) (h2 : t ≤ 300) (hs : (pth W k t).isSome = true) : fX7_far m (nI k) (sp t) Z M = some (sqo (pth W k t)) := by
  cases hc : pth W k t with
  | none => rw [hc] at hs; cases hs
  | some c =>
    obtain ⟨x1, x2, x3, x4⟩ := e_mX hB hW hk h1 h2 hc
    unfold fX7_far
    simp only [q_nm]
    rw [i_ix h1 h2, q_gdk hB.1.1.1, x1.1, q_bis, q_gdc x1.2.1, q_bis, q_gdc x1.2.1, x2.1, q_bis, q_gdc x2.2.1, q_bis, q_gdc x2.2.1, x1.2.2, x2.2.2]
    rfl
theorem e_ptM {Z : q_Z} {M : q_C} {m k : Nat} {W : q_W} (hB : MW Z M m W) (hW : okW W) (hk : k < W.K.length) : ∀ (d : Nat) (t : Int) (p : Int32) (f : Nat), t + d = 300 → 1 ≤ t → d + 1 < f →
    ∃ o, q_it (fun x : Int32 × Int32 => fX7_period_L14 m (nI k) x.1 x.2 Z M) f (p, sp t) = some o ∧ q_sm o (fun e => some (e.2 - e.1)) (fun _ => some (0 : Int32)) = some (prd (pth W k) d t p) := by
  intro d
  induction d with
  | zero =>
    intro t p f h1 h2 h3
    obtain ⟨f, rfl⟩ : ∃ y, f = y + 1 := ⟨f - 1, by omega⟩
    obtain rfl : t = 300 := by omega
    refine ⟨.inr (), q_it_x ?_, rfl⟩
    show fX7_period_L14 m (nI k) p (sp 300) Z M = _
    unfold fX7_period_L14
    rw [if_pos (by decide)]
  | succ d ih =>
    intro t p f h1 h2 h3
    obtain ⟨f, rfl⟩ : ∃ y, f = y + 1 := ⟨f - 1, by omega⟩
    have hlt : ¬ (300 : Int32) ≤ sp t := by
      rw [Int32.le_iff_toInt_le, sp_T (by omega) (by omega), show (300 : Int32).toInt = 300 from rfl]
      omega
    have t0 := e_mTh hB hW hk (t := 0) (by omega) (by omega)
    rw [show sp 0 = (0 : Int32) from rfl] at t0
    have t1 := e_mTh hB hW hk (t := t + 1) (by omega) (by omega)
    obtain ⟨o, b1, b2⟩ := ih (t + 1) p f (by omega) (by omega) (by omega)
    obtain ⟨o', b3, b4⟩ := ih (t + 1) (sp t) f (by omega) (by omega) (by omega)
    have on : ∀ {X : Option _}, X = some (Sum.inl (p, sp (t + 1))) → fX7_period_L14 m (nI k) p (sp t) Z M = X → ¬ (((pth W k 0).isSome = true ∧ (pth W k (t + 1)).isSome = true) ∧ pss (pth W k) t) → ∃ o, q_it (fun x : Int32 × Int32 => fX7_period_L14 m (nI k) x.1 x.2 Z M) (f + 1) (p, sp t) = some o ∧ q_sm o (fun e => some (e.2 - e.1)) (fun _ => some (0 : Int32)) = some (prd (pth W k) (d + 1) t p) := by
      intro X e1 e2 e3
      rw [e1] at e2
      refine ⟨o, by rw [q_it_s (y := (p, sp (t + 1))) e2]; exact b1, ?_⟩
      unfold prd
      rw [if_neg e3]
      exact b2
    obtain ⟨X, hX⟩ : ∃ X, fX7_period_L14 m (nI k) p (sp t) Z M = X := ⟨_, rfl⟩
    have pre := hX
    unfold fX7_period_L14 fX7_period_b90 at pre
    rw [if_neg hlt, q_gdk hB.1.1.1, t0, q_bis, bi_if, sp_1, t1, q_bis, bi_if] at pre
    simp only [q_nm] at pre
    by_cases c0 : (pth W k 0).isSome = true
    · rw [if_pos c0] at pre
      by_cases c1 : (pth W k (t + 1)).isSome = true
      · have s2 := pth_in hB hk (u := t) (v := t + 1) (by omega) (by omega) (by omega) c0 c1
        have s1 := pth_in hB hk (u := t - 1) (v := t + 1) (by omega) (by omega) (by omega) c0 c1
        rw [if_pos c1, e_far hB hW hk (by omega) (by omega) s2, q_bis, sp_m, e_far hB hW hk (by omega) (by omega) s1, q_bis, q_bis, e_far hB hW hk (by omega) (by omega) c1, q_bis] at pre
        by_cases q1 : sqo (pth W k (t - 1)) ≤ sqo (pth W k t)
        · rw [if_pos q1] at pre
          exact on rfl (hX.trans pre.symm) (fun q => q.2.1 q1)
        · rw [if_neg q1] at pre
          by_cases q2 : sqo (pth W k t) ≤ sqo (pth W k (t + 1))
          · rw [if_pos q2] at pre
            have c2 : pss (pth W k) t := ⟨q1, Int64.not_lt.mpr q2⟩
            by_cases c3 : p ≤ 0
            · rw [if_pos c3] at pre
              refine ⟨o', by rw [q_it_s (y := (sp t, sp (t + 1))) (hX.trans pre.symm)]; exact b3, ?_⟩
              unfold prd
              rw [if_pos ⟨⟨c0, c1⟩, c2⟩, if_pos c3]
              exact b4
            · rw [if_neg c3] at pre
              refine ⟨_, q_it_x (hX.trans pre.symm), ?_⟩
              unfold prd
              rw [if_pos ⟨⟨c0, c1⟩, c2⟩, if_neg c3]
              rfl
          · rw [if_neg q2] at pre
            exact on rfl (hX.trans pre.symm) (fun q => q.2.2 (Int64.not_le.mp q2))
      · rw [if_neg c1] at pre
        exact on rfl (hX.trans pre.symm) (fun q => c1 q.1.2)
    · rw [if_neg c0] at pre
      exact on rfl (hX.trans pre.symm) (fun q => c0 q.1.1)
theorem e_perM {Z : q_Z} {M : q_C} {m k : Nat} {W : q_W} (hB : MW Z M m W) (hW : okW W) (hk : k < W.K.length) : fX7_period m (nI k) Z M = some (prd (pth W k) 299 1 0) := by
  obtain ⟨o, b1, b2⟩ := e_ptM hB hW hk 299 1 0 q_FU (by omega) (by omega) (by unfold q_FU; omega)
  unfold fX7_period
  rw [show sp 1 = (1 : Int32) from rfl] at b1
  rw [q_gdk hB.1.1.1, e_isWay hB.1, q_bis, bi_if, if_pos (hW.kno hk), b1, q_bis]
  exact b2
theorem j_period {Z : q_Z} {M : q_C} {z : Nat} {W : q_W} (h : JW Z M z W) (v : Int32) : ∃ (r : Int32) (Z' : q_Z) (M' : q_C), fX6_period z v Z M = some (r, Z', M') ∧ fX7_period (z + 35) v Z' M' = some r ∧ JW Z' M' z W := by
  obtain ⟨hB, hM, hW⟩ := id h
  rcases hW.kin v with hv | ⟨k, hk, rfl⟩
  · refine ⟨-1, Z, M, ?_, ?_, h⟩
    · unfold fX6_period fX6_period_b5 fX6_period_b18
      rw [q_gdk hB.1.1.1, e_tracedW0 hB hv, q_b3s, q_onn]
    · unfold fX7_period
      rw [q_gdk hM.1.1.1, e_isWay hM.1, q_bis, bi_if, if_neg (fun q => q hv)]
  · obtain ⟨w, Z', M', a1, a2, a3, a4, a5, a6⟩ := e_tracedW hB hW hk
    have hJ := h.tr a3 a4 a5
    obtain ⟨w', b1, b2⟩ := a6.rd a4 hW hk
    rw [a2] at b1
    cases b1
    refine ⟨prd (pth W k) 299 1 0, Z', M', ?_, e_perM hJ.2.1 hW hk, hJ⟩
    unfold fX6_period fX6_period_b5 fX6_period_b18
    rw [q_gdk hB.1.1.1, a1, q_b3s, q_ons, q_gdk b2.1, e_tuC b2 (fun u v q1 q2 q3 q4 q5 => pth_in hJ.2.1 hk q1 q2 q3 q4 q5), q_bis]
/-! span -/
def spM (g : Int32) (pd : Nat → Int32) : Nat → Nat → Int32 → Int32
  | 0, _, b => b
  | d + 1, k, b => if pd k = 0 then 0 else spM g pd d (k + 1) (if g = 0 then (if b ≤ pd k then b else pd k) else (if pd k ≤ b then b else pd k))
def spC (g : Int32) (pd : Nat → Int32) : Nat → Nat → Int32 → Int32
  | 0, _, b => b
  | d + 1, k, b => if pd k = 0 then 0 else spC g pd d (k + 1) (if k = 0 then pd k else if g = 0 then (if b ≤ pd k then b else pd k) else (if pd k ≤ b then b else pd k))
theorem sp_CM (g : Int32) (pd : Nat → Int32) : ∀ (d k : Nat) (b : Int32), spC g pd d (k + 1) b = spM g pd d (k + 1) b := by
  intro d
  induction d with
  | zero => intro k b; rfl
  | succ d ih =>
    intro k b
    unfold spC spM
    rw [if_neg (show ¬ k + 1 = 0 by omega), ih]
theorem sp_C0 (g : Int32) (pd : Nat → Int32) (d : Nat) (b : Int32) : spC g pd (d + 1) 0 b = spM g pd (d + 1) 0 (pd 0) := by
  unfold spC spM
  rw [if_pos rfl, sp_CM, if_pos (Int32.le_refl _), ite_self]
theorem e_spC {Z : q_Z} {M : q_C} {z : Nat} {W : q_W} (h : JW Z M z W) (hd : ∀ k, k < W.K.length → trd M z k) (g : Int32) : ∀ (d k f : Nat) (b : Int32), k + d = W.K.length → d + 1 < f →
    ∃ o, q_it (fun x : Int32 × Int32 => fX6_span_L18 z g x.1 x.2 Z M) f (b, nI k) = some o ∧ q_sm o (fun _ => some ((0 : Int32), Z, M)) (fun e => some (e, Z, M)) = some (spC g (fun k => prd (pth W k) 299 1 0) d k b, Z, M) := by
  obtain ⟨hB, hM, hW⟩ := id h
  have hl := hW.kl
  intro d
  induction d with
  | zero =>
    intro k f b h1 h2
    obtain ⟨f, rfl⟩ : ∃ y, f = y + 1 := ⟨f - 1, by omega⟩
    refine ⟨.inr b, q_it_x ?_, rfl⟩
    show fX6_span_L18 z g b (nI k) Z M = _
    unfold fX6_span_L18
    rw [q_gdk hB.1.1.1, hB.1.2.2.2.2.2.2.1, if_pos (by rw [hW.kle (by omega)]; omega)]
  | succ d ih =>
    intro k f b h1 h2
    obtain ⟨f, rfl⟩ : ∃ y, f = y + 1 := ⟨f - 1, by omega⟩
    have hk : k < W.K.length := by omega
    obtain ⟨w, b1, b2⟩ := (hd k hk).rd hB hW hk
    have pre : fX6_span_L18 z g b (nI k) Z M = fX6_span_b47 z g b (nI k) (prd (pth W k) 299 1 0) Z M := by
      unfold fX6_span_L18
      rw [q_gdk hB.1.1.1, hB.1.2.2.2.2.2.2.1, if_neg (by rw [hW.kle (by omega)]; omega), e_kw hB.1 hW hk, q_bis, b1, q_ons, q_gdk b2.1, e_tuC b2 (fun u v q1 q2 q3 q4 q5 => pth_in hM hk q1 q2 q3 q4 q5), q_bis]
    unfold fX6_span_b47 fX6_span_b79 fX6_span_b82 at pre
    simp only [q_nm] at pre
    rw [nI_1] at pre
    unfold spC
    generalize prd (pth W k) 299 1 0 = p at *
    have hk0 : nI k = 0 ↔ k = 0 := by
      rw [← nI_0, nI_eq (by omega) (by omega)]
    by_cases c0 : p = 0
    · rw [if_pos c0] at pre
      exact ⟨_, q_it_x pre, by rw [if_pos c0]; rfl⟩
    · rw [if_neg c0] at pre
      have nx : ∀ b', fX6_span_L18 z g b (nI k) Z M = some (Sum.inl (b', nI (k + 1))) → ∃ o, q_it (fun x : Int32 × Int32 => fX6_span_L18 z g x.1 x.2 Z M) (f + 1) (b, nI k) = some o ∧ q_sm o (fun _ => some ((0 : Int32), Z, M)) (fun e => some (e, Z, M)) = some (spC g (fun k => prd (pth W k) 299 1 0) d (k + 1) b', Z, M) := by
        intro b' e
        obtain ⟨o, d1, d2⟩ := ih (k + 1) f b' (by omega) (by omega)
        exact ⟨o, by rw [q_it_s (y := (b', nI (k + 1))) e]; exact d1, d2⟩
      rw [if_neg c0]
      by_cases c1 : k = 0
      · rw [if_pos (hk0.mpr c1)] at pre
        rw [if_pos c1]
        exact nx _ pre
      · rw [if_neg (fun q => c1 (hk0.mp q))] at pre
        rw [if_neg c1]
        by_cases c2 : g = 0
        · rw [if_pos c2] at pre
          rw [if_pos c2]
          by_cases c3 : b ≤ p
          · rw [if_pos c3] at pre
            rw [if_pos c3]
            exact nx _ pre
          · rw [if_neg c3] at pre
            rw [if_neg c3]
            exact nx _ pre
        · rw [if_neg c2] at pre
          rw [if_neg c2]
          by_cases c3 : p ≤ b
          · rw [if_pos c3] at pre
            rw [if_pos c3]
            exact nx _ pre
          · rw [if_neg c3] at pre
            rw [if_neg c3]
            exact nx _ pre
theorem e_spM {Z : q_Z} {M : q_C} {m : Nat} {W : q_W} (hM : MW Z M m W) (hW : okW W) (g : Int32) : ∀ (d k f : Nat) (b : Int32), k + d = W.K.length → d + 1 < f →
    ∃ o, q_it (fun x : Int32 × Int32 => fX7_span_L17 m g x.1 x.2 Z M) f (b, nI k) = some o ∧ q_sm o (fun _ => some (0 : Int32)) (fun e => some e) = some (spM g (fun k => prd (pth W k) 299 1 0) d k b) := by
  have hl := hW.kl
  intro d
  induction d with
  | zero =>
    intro k f b h1 h2
    obtain ⟨f, rfl⟩ : ∃ y, f = y + 1 := ⟨f - 1, by omega⟩
    refine ⟨.inr b, q_it_x ?_, rfl⟩
    show fX7_span_L17 m g b (nI k) Z M = _
    unfold fX7_span_L17
    rw [q_gdk hM.1.1.1, hM.1.2.2.2.2.2.2.1, if_pos (by rw [hW.kle (by omega)]; omega)]
  | succ d ih =>
    intro k f b h1 h2
    obtain ⟨f, rfl⟩ : ∃ y, f = y + 1 := ⟨f - 1, by omega⟩
    have hk : k < W.K.length := by omega
    obtain ⟨X, hX⟩ : ∃ X, fX7_span_L17 m g b (nI k) Z M = X := ⟨_, rfl⟩
    have pre := hX
    unfold fX7_span_L17 fX7_span_b70 at pre
    rw [q_gdk hM.1.1.1, hM.1.2.2.2.2.2.2.1, if_neg (by rw [hW.kle (by omega)]; omega), e_perM hM hW hk, q_bis] at pre
    simp only [q_nm] at pre
    rw [nI_1] at pre
    unfold spM
    generalize prd (pth W k) 299 1 0 = p at *
    by_cases c0 : p = 0
    · rw [if_pos c0] at pre
      exact ⟨_, q_it_x (hX.trans pre.symm), by rw [if_pos c0]; rfl⟩
    · rw [if_neg c0] at pre
      have nx : ∀ b', some (Sum.inl (b', nI (k + 1))) = fX7_span_L17 m g b (nI k) Z M → ∃ o, q_it (fun x : Int32 × Int32 => fX7_span_L17 m g x.1 x.2 Z M) (f + 1) (b, nI k) = some o ∧ q_sm o (fun _ => some (0 : Int32)) (fun e => some e) = some (spM g (fun k => prd (pth W k) 299 1 0) d (k + 1) b') := by
        intro b' e
        obtain ⟨o, d1, d2⟩ := ih (k + 1) f b' (by omega) (by omega)
        exact ⟨o, by rw [q_it_s (y := (b', nI (k + 1))) e.symm]; exact d1, d2⟩
      rw [if_neg c0]
      by_cases c2 : g = 0
      · rw [if_pos c2] at pre
        rw [if_pos c2]
        by_cases c3 : b ≤ p
        · rw [if_pos c3] at pre
          rw [if_pos c3]
          exact nx _ (pre.trans hX.symm)
        · rw [if_neg c3] at pre
          rw [if_neg c3]
          exact nx _ (pre.trans hX.symm)
      · rw [if_neg c2] at pre
        rw [if_neg c2]
        by_cases c3 : p ≤ b
        · rw [if_pos c3] at pre
          rw [if_pos c3]
          exact nx _ (pre.trans hX.symm)
        · rw [if_neg c3] at pre
          rw [if_neg c3]
          exact nx _ (pre.trans hX.symm)
theorem okW.k1 {W : q_W} (hW : okW W) : ((1 : Int32) ≤ w_kc W ↔ 0 < W.K.length) ∧ ((0 : Int32) < w_kc W ↔ 0 < W.K.length) := by
  have hl := hW.kl
  have e1 : (1 : Int32).toInt = 1 := rfl
  have e0 : (0 : Int32).toInt = 0 := rfl
  by_cases h : 0 < W.K.length
  · rw [hW.kc h, Int32.le_iff_toInt_le, Int32.lt_iff_toInt_lt, nI_toInt (by omega), e1, e0]
    omega
  · have h0 : W.K.length = 0 := by omega
    have : (w_kc W).toInt ≤ 0 := by
      unfold w_kc
      rw [h0]
      split
      · rw [nI_toInt (by omega)]; omega
      · rw [show (-1 : Int32).toInt = -1 from rfl]; omega
    rw [Int32.le_iff_toInt_le, Int32.lt_iff_toInt_lt, e1, e0]
    omega
theorem j_span {Z : q_Z} {M : q_C} {z : Nat} {W : q_W} (h : JW Z M z W) (g : Int32) : ∃ (r : Int32) (Z' : q_Z) (M' : q_C), fX6_span z g Z M = some (r, Z', M') ∧ fX7_span (z + 35) g Z' M' = some r ∧ JW Z' M' z W := by
  obtain ⟨hB, hM, hW⟩ := id h
  have hl := hW.kl
  by_cases hp : 0 < W.K.length
  · obtain ⟨Z', M', a1, a2, a3, a4, a5⟩ := e_traceAll hB hW
    have hJ := h.tr a2 a3 a4
    obtain ⟨o, c1, c2⟩ := e_spC hJ a5 g W.K.length 0 q_FU 0 (by omega) (by unfold q_FU; omega)
    obtain ⟨o', c3, c4⟩ := e_spM hJ.2.1 hW g W.K.length 0 q_FU (prd (pth W 0) 299 1 0) (by omega) (by unfold q_FU; omega)
    have e0 := e_perM hJ.2.1 hW hp
    rw [nI_0] at c1 c3 e0
    have es : spC g (fun k => prd (pth W k) 299 1 0) W.K.length 0 0 = spM g (fun k => prd (pth W k) 299 1 0) W.K.length 0 (prd (pth W 0) 299 1 0) := by
      obtain ⟨n, hn⟩ : ∃ n, W.K.length = n + 1 := ⟨W.K.length - 1, by omega⟩
      rw [hn, sp_C0]
    rw [es] at c2
    refine ⟨spM g (fun k => prd (pth W k) 299 1 0) W.K.length 0 (prd (pth W 0) 299 1 0), Z', M', ?_, ?_, hJ⟩
    · unfold fX6_span fX6_span_b14
      rw [q_gdk hB.1.1.1, hB.1.2.2.2.2.2.2.1, if_pos (hW.k1.1.mpr hp), a1, q_b2s, c1, q_bis]
      exact c2
    · unfold fX7_span
      rw [q_gdk hJ.2.1.1.1.1, hJ.2.1.1.2.2.2.2.2.2.1, if_pos (hW.k1.2.mpr hp), e0, q_bis, c3, q_bis]
      exact c4
  · refine ⟨-1, Z, M, ?_, ?_, h⟩
    · unfold fX6_span
      rw [q_gdk hB.1.1.1, hB.1.2.2.2.2.2.2.1, if_neg (fun q => hp (hW.k1.1.mp q))]
    · unfold fX7_span
      rw [q_gdk hM.1.1.1, hM.1.2.2.2.2.2.2.1, if_neg (fun q => hp (hW.k1.2.mp q))]
