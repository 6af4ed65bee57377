/-! near -/
def nup (s : Int64 × Int32) (o : Option (Int64 × Int64)) (t : Int) : Int64 × Int32 := match o with
  | none => s
  | some p => if s.1 < 0 ∨ p.1 * p.1 + p.2 * p.2 < s.1 then (p.1 * p.1 + p.2 * p.2, sp t) else s
def nin (W : q_W) (sel : Nat → Bool) (t : Int) : Nat → Nat → Int64 × Int32 → Int64 × Int32
  | 0, _, s => s
  | d + 1, k, s => nin W sel t d (k + 1) (if sel k = true then nup s (sdn W t k) t else s)
def nou (F : Int → Int64 × Int32 → Int64 × Int32) : Nat → Int → Int64 × Int32 → Int64 × Int32
  | 0, _, s => s
  | d + 1, t, s => nou F d (t + 1) (F t s)
def nok (s : Int64 × Int32) : Prop := s.1 = -1 ∨ 0 ≤ s.1.toInt
theorem nsq_b {k : Nat} {p : Int64 × Int64} (h : ptb (k, p)) : 0 ≤ (p.1 * p.1 + p.2 * p.2).toInt := by
  have h1 : -120000 ≤ p.1.toInt ∧ p.1.toInt ≤ 120000 := h.1
  have h2 : -120000 ≤ p.2.toInt ∧ p.2.toInt ≤ 120000 := h.2
  have m1 := mul_b h1 h1
  have m2 := mul_b h2 h2
  have e1 : (p.1 * p.1).toInt = p.1.toInt * p.1.toInt := tI_mul (by omega) (by omega)
  have e2 : (p.2 * p.2).toInt = p.2.toInt * p.2.toInt := tI_mul (by omega) (by omega)
  have n1 : 0 ≤ p.1.toInt * p.1.toInt := by
    rcases Int.le_total 0 p.1.toInt with q | q
    · exact Int.mul_nonneg q q
    · exact Int.mul_nonneg_of_nonpos_of_nonpos q q
  have n2 : 0 ≤ p.2.toInt * p.2.toInt := by
    rcases Int.le_total 0 p.2.toInt with q | q
    · exact Int.mul_nonneg q q
    · exact Int.mul_nonneg_of_nonpos_of_nonpos q q
  rw [tI_add (by omega) (by omega), e1, e2]
  omega
theorem nup_ok {W : q_W} (hW : okW W) {t : Int} {k : Nat} {s : Int64 × Int32} (h : nok s) : nok (nup s (sdn W t k) t) := by
  unfold nup
  cases hs : sdn W t k with
  | none => exact h
  | some p =>
    dsimp only
    split
    · exact Or.inr (nsq_b (sdn_b hW hs))
    · exact h
theorem nok_lt {s : Int64 × Int32} (h : nok s) : s.1 = -1 ↔ s.1 < 0 := by
  have e0 : (0 : Int64).toInt = 0 := rfl
  have e1 : (-1 : Int64).toInt = -1 := by decide
  rcases h with q | q
  · rw [q]; decide
  · constructor
    · intro q2
      rw [q2, e1] at q
      omega
    · intro q2
      rw [Int64.lt_iff_toInt_lt, e0] at q2
      omega
theorem nin_ok {W : q_W} (hW : okW W) {sel : Nat → Bool} {t : Int} : ∀ (d k : Nat) (s : Int64 × Int32), nok s → nok (nin W sel t d k s) := by
  intro d
  induction d with
  | zero => intro k s h; exact h
  | succ d ih =>
    intro k s h
    unfold nin
    refine ih (k + 1) _ ?_
    split
    · exact nup_ok hW h
    · exact h
theorem e_sqE {Z : q_Z} {M : q_C} {z w k : Nat} {W : q_W} (hr : rdW Z M w k W) (hB : BF Z M z W) (hW : okW W) {t : Int} (h1 : -300 ≤ t) (h2 : t ≤ 300) : fX6_squareFromEarth z (some w) (sp t) Z M = some (match sdn W t k with
    | none => -1
    | some p => p.1 * p.1 + p.2 * p.2) := by
  obtain ⟨r1, r2, r3⟩ := hr
  obtain ⟨hz, hS, hT, _⟩ := hB
  have eT : (sp t).toInt = t := sp_T (by omega) (by omega)
  unfold fX6_squareFromEarth fX6_squareFromEarth_b12
  rw [q_ons, q_gdk r1, r2, q_bis, bi_if, eT]
  cases hc : pth W k t with
  | none =>
    have hn : sdn W t k = none := by unfold sdn; rw [hc]; rfl
    rw [if_neg (fun q => by cases q.2), hn]
  | some c =>
    obtain ⟨x1, x2, _, _⟩ := r3 t c h1 h2 hc
    obtain ⟨n1, n2⟩ := nl_x (pth_nl hc)
    obtain ⟨bb1, bb2⟩ := lost_b (pth_nl hc)
    have t1 := hW.1.2.1.x (sp t)
    have t2 := hW.1.2.1.y (sp t)
    have l1 := l_32 (q := c.1) (by omega) (by omega)
    have l2 := l_32 (q := c.2.1) (by omega) (by omega)
    have hn : sdn W t k = some (c.1 - (tpx W.T.1 (sp t)).toInt64, c.2.1 - (tpy W.T.1 (sp t)).toInt64) := by unfold sdn; rw [hc]; rfl
    rw [if_pos ⟨⟨h1, h2⟩, rfl⟩, hn, x1, q_bis, q_gdk hz.1, hz.2.1.2.1, q_bis, q_gdk hz.2.2.2.1.1, hz.2.2.2.1.2.1, q_bis, q_gdk hz.2.2.2.1.2.2.2.1.1, e_xAt hz.2.2.2.1.2.2.2.1 hT.1, q_bis]
    simp only [q_nm]
    rw [x2, q_bis, q_bis, q_gdk hz.2.2.2.1.1, hz.2.2.2.1.2.1, q_bis, q_gdk hz.2.2.2.1.2.2.2.1.1, e_yAt hz.2.2.2.1.2.2.2.1 hT.1, q_bis, i64_sub (by omega) (by omega), i64_sub (by omega) (by omega), n1, n2]
theorem e_niC {Z : q_Z} {M : q_C} {z : Nat} {W : q_W} (hJ : JW Z M z W) {t : Int} (h1 : -300 ≤ t) (h2 : t ≤ 300) {v3 v4 v5 : Int32} {e : Nat} (he : e ≤ W.K.length) (hv : ∀ q, q ≤ 100 → (v5 ≤ nI q ↔ e ≤ q)) : ∀ (d k f : Nat) (s : Int64 × Int32), k + d = e → (∀ q, k ≤ q → q < e → trd M z q) → d + 1 < f → nok s →
    q_it (fun x : Int64 × Int32 × Int32 => fX6_near_L92 z v3 v4 v5 (sp t) x.1 x.2.1 x.2.2 Z M) f (s.1, s.2, nI k) = some (nin W (fun _ => true) t d k s) := by
  obtain ⟨hB, hM, hW⟩ := id hJ
  have hl := hW.kl
  intro d
  induction d with
  | zero =>
    intro k f s h3 hd h4 h5
    obtain ⟨f, rfl⟩ : ∃ y, f = y + 1 := ⟨f - 1, by omega⟩
    refine q_it_x ?_
    show fX6_near_L92 z v3 v4 v5 (sp t) s.1 s.2 (nI k) Z M = _
    unfold fX6_near_L92
    rw [if_pos ((hv k (by omega)).mpr (by omega))]
    rfl
  | succ d ih =>
    intro k f s h3 hd h4 h5
    obtain ⟨f, rfl⟩ : ∃ y, f = y + 1 := ⟨f - 1, by omega⟩
    have hk : k < W.K.length := by omega
    obtain ⟨w, b1, b2⟩ := (hd k (by omega) (by omega)).rd hB hW hk
    have pre : fX6_near_L92 z v3 v4 v5 (sp t) s.1 s.2 (nI k) Z M = some (.inl ((nup s (sdn W t k) t).1, (nup s (sdn W t k) t).2, nI (k + 1))) := by
      unfold fX6_near_L92 fX6_near_b139 fX6_near_b147
      rw [if_neg (fun q => by rw [hv k (by omega)] at q; omega), q_gdk hB.1.1.1, e_kw hB.1 hW hk, q_bis, b1, e_sqE b2 hB.1 hW h1 h2, q_bis]
      simp only [q_nm]
      rw [nI_1]
      unfold nup
      cases hs : sdn W t k with
      | none => dsimp only; rw [if_pos rfl]
      | some p =>
        dsimp only
        have hp := nsq_b (sdn_b hW hs)
        have hx : ¬ p.1 * p.1 + p.2 * p.2 = -1 := fun q => by rw [q] at hp; exact absurd hp (by decide)
        rw [if_neg hx]
        by_cases c1 : s.1 = -1
        · rw [if_pos c1, if_pos (Or.inl ((nok_lt h5).mp c1))]
        · have c1' : ¬ s.1 < 0 := fun q => c1 ((nok_lt h5).mpr q)
          rw [if_neg c1]
          by_cases c2 : s.1 ≤ p.1 * p.1 + p.2 * p.2
          · rw [if_pos c2, if_neg (fun q => q.elim c1' (fun q => Int64.not_lt.mpr c2 q))]
          · rw [if_neg c2, if_pos (Or.inr (Int64.not_le.mp c2))]
    rw [q_it_s (y := ((nup s (sdn W t k) t).1, (nup s (sdn W t k) t).2, nI (k + 1))) pre, ih (k + 1) f _ (by omega) (fun q q1 q2 => hd q (by omega) q2) (by omega) (nup_ok hW h5)]
    rfl
theorem e_niM {Z : q_Z} {M : q_C} {m : Nat} {W : q_W} (hB : MW Z M m W) (hW : okW W) {t : Int} (h1 : -300 ≤ t) (h2 : t ≤ 300) {v1 v3 : Int32} : ∀ (d k f : Nat) (s : Int64 × Int32), k + d = W.K.length → d + 1 < f → nok s →
    q_it (fun x : Int64 × Int32 × Int32 => fX7_near_L56 m v1 v3 (sp t) x.1 x.2.1 x.2.2 Z M) f (s.1, s.2, nI k) = some (nin W (fun q => decide (v1 = -1) || decide (nI q = v1)) t d k s) := by
  have hl := hW.kl
  intro d
  induction d with
  | zero =>
    intro k f s h3 h4 h5
    obtain ⟨f, rfl⟩ : ∃ y, f = y + 1 := ⟨f - 1, by omega⟩
    refine q_it_x ?_
    show fX7_near_L56 m v1 v3 (sp t) s.1 s.2 (nI k) Z M = _
    unfold fX7_near_L56
    rw [q_gdk hB.1.1.1, hB.1.2.2.2.2.2.2.1, if_pos (by rw [hW.kle (by omega)]; omega)]
    rfl
  | succ d ih =>
    intro k f s h3 h4 h5
    obtain ⟨f, rfl⟩ : ∃ y, f = y + 1 := ⟨f - 1, by omega⟩
    have hk : k < W.K.length := by omega
    have b76 : fX7_near_b76 m v1 v3 s.1 s.2 (sp t) (nI k) Z M = some (.inl ((nup s (sdn W t k) t).1, (nup s (sdn W t k) t).2, nI (k + 1))) := by
      unfold fX7_near_b76 fX7_near_b149 fX7_near_b157
      rw [q_gdk hB.1.1.1, e_mThS hB hW hk h1 h2, q_bis, bi_if]
      simp only [q_nm]
      rw [nI_1]
      unfold nup
      cases hs : sdn W t k with
      | none => rw [if_neg (by decide)]
      | some p =>
        obtain ⟨u1, u2⟩ := e_seen hB hW hk h1 h2 hs
        rw [if_pos (show (some p).isSome = true from rfl), u1, q_bis, q_bis, u2, q_bis, q_bis]
        dsimp only
        generalize p.1 * p.1 + p.2 * p.2 = x
        by_cases c1 : s.1 < 0
        · rw [if_pos c1, if_pos (Or.inl c1)]
        · rw [if_neg c1]
          by_cases c2 : x < s.1
          · rw [if_pos c2, if_pos (Or.inr c2)]
          · rw [if_neg c2, if_neg (fun q => q.elim c1 c2)]
    have pre : fX7_near_L56 m v1 v3 (sp t) s.1 s.2 (nI k) Z M = some (.inl ((if (decide (v1 = -1) || decide (nI k = v1)) = true then nup s (sdn W t k) t else s).1, (if (decide (v1 = -1) || decide (nI k = v1)) = true then nup s (sdn W t k) t else s).2, nI (k + 1))) := by
      unfold fX7_near_L56
      rw [q_gdk hB.1.1.1, hB.1.2.2.2.2.2.2.1, if_neg (by rw [hW.kle (by omega)]; omega), b76]
      by_cases c1 : v1 = -1
      · rw [if_pos c1, if_pos (by simp [c1])]
      · rw [if_neg c1]
        by_cases c2 : nI k = v1
        · rw [if_pos c2, if_pos (by simp [c2])]
        · rw [if_neg c2, if_neg (by simp [c1, c2])]
          unfold fX7_near_b157
          simp only [q_nm]
          rw [nI_1]
    have ok' : nok (if (decide (v1 = -1) || decide (nI k = v1)) = true then nup s (sdn W t k) t else s) := by
      split
      · exact nup_ok hW h5
      · exact h5
    rw [q_it_s (y := ((if (decide (v1 = -1) || decide (nI k = v1)) = true then nup s (sdn W t k) t else s).1, (if (decide (v1 = -1) || decide (nI k = v1)) = true then nup s (sdn W t k) t else s).2, nI (k + 1))) pre, ih (k + 1) f _ (by omega) (by omega) ok']
    rfl
theorem e_noC {Z : q_Z} {M : q_C} {z : Nat} {W : q_W} (hJ : JW Z M z W) {t2 : Int} (h2 : t2 ≤ 300) {v5 : Int32} {e k0 : Nat} (hk0 : k0 ≤ e) (he : e ≤ W.K.length) (hv : ∀ q, q ≤ 100 → (v5 ≤ nI q ↔ e ≤ q)) (hd : ∀ q, k0 ≤ q → q < e → trd M z q) : ∀ (d : Nat) (t : Int) (f : Nat) (s : Int64 × Int32), t + d = t2 + 1 → -300 ≤ t → d + 1 < f → nok s →
    q_it (fun x : Int64 × Int32 × Int32 => fX6_near_L82 z (sp t2) (nI k0) v5 x.1 x.2.1 x.2.2 Z M) f (s.1, s.2, sp t) = some (nou (fun t s => nin W (fun _ => true) t (e - k0) k0 s) d t s) := by
  have hW := hJ.2.2
  have hl := hW.kl
  intro d
  induction d with
  | zero =>
    intro t f s h3 h4 h5 h6
    obtain ⟨f, rfl⟩ : ∃ y, f = y + 1 := ⟨f - 1, by omega⟩
    refine q_it_x ?_
    show fX6_near_L82 z (sp t2) (nI k0) v5 s.1 s.2 (sp t) Z M = _
    unfold fX6_near_L82
    rw [if_pos (by rw [Int32.lt_iff_toInt_lt, sp_T (by omega) (by omega), sp_T (by omega) (by omega)]; omega)]
    rfl
  | succ d ih =>
    intro t f s h3 h4 h5 h6
    obtain ⟨f, rfl⟩ : ∃ y, f = y + 1 := ⟨f - 1, by omega⟩
    have hi := e_niC hJ (t := t) h4 (by omega) (v3 := sp t2) (v4 := nI k0) he hv (e - k0) k0 q_FU s (by omega) hd (by unfold q_FU; omega) h6
    have pre : fX6_near_L82 z (sp t2) (nI k0) v5 s.1 s.2 (sp t) Z M = some (.inl ((nin W (fun _ => true) t (e - k0) k0 s).1, (nin W (fun _ => true) t (e - k0) k0 s).2, sp (t + 1))) := by
      unfold fX6_near_L82
      rw [if_neg (by rw [Int32.lt_iff_toInt_lt, sp_T (by omega) (by omega), sp_T (by omega) (by omega)]; omega), hi, q_bis]
      simp only [q_nm]
      rw [sp_1]
    rw [q_it_s (y := ((nin W (fun _ => true) t (e - k0) k0 s).1, (nin W (fun _ => true) t (e - k0) k0 s).2, sp (t + 1))) pre, ih (t + 1) f _ (by omega) (by omega) (by omega) (nin_ok hW _ _ _ h6)]
    rfl
theorem e_noM {Z : q_Z} {M : q_C} {m : Nat} {W : q_W} (hB : MW Z M m W) (hW : okW W) {t2 : Int} (h2 : t2 ≤ 300) {v1 : Int32} : ∀ (d : Nat) (t : Int) (f : Nat) (s : Int64 × Int32), t + d = t2 + 1 → -300 ≤ t → d + 1 < f → nok s →
    q_it (fun x : Int64 × Int32 × Int32 => fX7_near_L47 m v1 (sp t2) x.1 x.2.1 x.2.2 Z M) f (s.1, s.2, sp t) = some (nou (fun t s => nin W (fun q => decide (v1 = -1) || decide (nI q = v1)) t W.K.length 0 s) d t s) := by
  have hl := hW.kl
  intro d
  induction d with
  | zero =>
    intro t f s h3 h4 h5 h6
    obtain ⟨f, rfl⟩ : ∃ y, f = y + 1 := ⟨f - 1, by omega⟩
    refine q_it_x ?_
    show fX7_near_L47 m v1 (sp t2) s.1 s.2 (sp t) Z M = _
    unfold fX7_near_L47
    rw [if_pos (by rw [Int32.lt_iff_toInt_lt, sp_T (by omega) (by omega), sp_T (by omega) (by omega)]; omega)]
    rfl
  | succ d ih =>
    intro t f s h3 h4 h5 h6
    obtain ⟨f, rfl⟩ : ∃ y, f = y + 1 := ⟨f - 1, by omega⟩
    have hi := e_niM hB hW (t := t) h4 (by omega) (v1 := v1) (v3 := sp t2) W.K.length 0 q_FU s (by omega) (by unfold q_FU; omega) h6
    rw [nI_0] at hi
    generalize hr : nin W (fun q => decide (v1 = -1) || decide (nI q = v1)) t W.K.length 0 s = r at hi
    have hok : nok r := by rw [← hr]; exact nin_ok hW _ _ _ h6
    have pre : fX7_near_L47 m v1 (sp t2) s.1 s.2 (sp t) Z M = some (.inl (r.1, r.2, sp (t + 1))) := by
      unfold fX7_near_L47
      rw [if_neg (by rw [Int32.lt_iff_toInt_lt, sp_T (by omega) (by omega), sp_T (by omega) (by omega)]; omega), hi, q_bis]
      simp only [q_nm]
      rw [sp_1]
    rw [q_it_s (y := (r.1, r.2, sp (t + 1))) pre, ih (t + 1) f r (by omega) (by omega) (by omega) hok]
    show _ = some (nou _ d (t + 1) (nin W (fun q => decide (v1 = -1) || decide (nI q = v1)) t W.K.length 0 s))
    rw [hr]
/-- one way alone -/
theorem nin_0 {W : q_W} {t : Int} {v1 : Int32} (hv : ¬ v1 = -1) : ∀ (d k : Nat) (s : Int64 × Int32), (∀ q, k ≤ q → q < k + d → ¬ nI q = v1) → nin W (fun q => decide (v1 = -1) || decide (nI q = v1)) t d k s = s := by
  intro d
  induction d with
  | zero => intro k s _; rfl
  | succ d ih =>
    intro k s h
    unfold nin
    rw [if_neg (by simp [hv, h k (by omega) (by omega)])]
    exact ih (k + 1) s (fun q q1 q2 => h q (by omega) (by omega))
theorem nin_1 {W : q_W} {t : Int} {k0 : Nat} (hv : ¬ nI k0 = -1) (hb : k0 < 100) : ∀ (d k : Nat) (s : Int64 × Int32), k ≤ k0 → k0 < k + d → k + d ≤ 100 → nin W (fun q => decide (nI k0 = -1) || decide (nI q = nI k0)) t d k s = nup s (sdn W t k0) t := by
  intro d
  induction d with
  | zero => intro k s h1 h2; omega
  | succ d ih =>
    intro k s h1 h2 h3
    unfold nin
    by_cases e : k = k0
    · subst e
      rw [if_pos (by simp), nin_0 hv d (k + 1) _ (fun q q1 q2 e => by rw [nI_eq (by omega) (by omega)] at e; omega)]
    · rw [if_neg (by simp [hv, nI_eq (a := k) (b := k0) (by omega) (by omega), e])]
      exact ih (k + 1) s (by omega) (by omega) (by omega)
theorem nin_t {W : q_W} {t : Int} : ∀ (d k : Nat) (s : Int64 × Int32), nin W (fun q => decide ((-1 : Int32) = -1) || decide (nI q = -1)) t d k s = nin W (fun _ => true) t d k s := by
  intro d
  induction d with
  | zero => intro k s; rfl
  | succ d ih =>
    intro k s
    unfold nin
    rw [if_pos (by simp), if_pos rfl]
    exact ih (k + 1) _
theorem nou_c {F G : Int → Int64 × Int32 → Int64 × Int32} (h : ∀ t s, F t s = G t s) : ∀ (d : Nat) (t : Int) (s : Int64 × Int32), nou F d t s = nou G d t s := by
  intro d
  induction d with
  | zero => intro t s; rfl
  | succ d ih =>
    intro t s
    unfold nou
    rw [h t s]
    exact ih (t + 1) _
/-- where it began does not count -/
def nrl (s s' : Int64 × Int32) : Prop := s'.1 = s.1 ∧ (¬ s.1 < 0 → s'.2 = s.2)
theorem nup_r {s s' : Int64 × Int32} {o : Option (Int64 × Int64)} {t : Int} (h : nrl s s') : nrl (nup s o t) (nup s' o t) := by
  unfold nup
  cases o with
  | none => exact h
  | some p =>
    dsimp only
    rw [h.1]
    split
    · exact ⟨rfl, fun _ => rfl⟩
    · exact h
theorem nin_r {W : q_W} {sel : Nat → Bool} {t : Int} : ∀ (d k : Nat) (s s' : Int64 × Int32), nrl s s' → nrl (nin W sel t d k s) (nin W sel t d k s') := by
  intro d
  induction d with
  | zero => intro k s s' h; exact h
  | succ d ih =>
    intro k s s' h
    unfold nin
    refine ih (k + 1) _ _ ?_
    split
    · exact nup_r h
    · exact h
theorem nou_r {W : q_W} {sel : Nat → Bool} {n k : Nat} : ∀ (d : Nat) (t : Int) (s s' : Int64 × Int32), nrl s s' → nrl (nou (fun t s => nin W sel t n k s) d t s) (nou (fun t s => nin W sel t n k s) d t s') := by
  intro d
  induction d with
  | zero => intro t s s' h; exact h
  | succ d ih =>
    intro t s s' h
    unfold nou
    exact ih (t + 1) _ _ (nin_r _ _ _ _ h)
theorem nou_ok {W : q_W} (hW : okW W) {sel : Nat → Bool} {n k : Nat} : ∀ (d : Nat) (t : Int) (s : Int64 × Int32), nok s → nok (nou (fun t s => nin W sel t n k s) d t s) := by
  intro d
  induction d with
  | zero => intro t s h; exact h
  | succ d ih =>
    intro t s h
    unfold nou
    exact ih (t + 1) _ (nin_ok hW _ _ _ h)
