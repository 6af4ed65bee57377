/-! THE WORLD: what both hold, told once -/
def q_W : Type := q_SK × q_SK × Nat × (Nat → Nat → Int32) × Option (Nat × Nat) × Int32 × Int32 × Nat × Bool × List (Nat × Nat × q_cs) × Int × Int32
def q_W.S (W : q_W) : q_SK := W.1
def q_W.T (W : q_W) : q_SK := W.2.1
def q_W.n (W : q_W) : Nat := W.2.2.1
def q_W.sg (W : q_W) : (Nat → Nat → Int32) := W.2.2.2.1
def q_W.ba (W : q_W) : Option (Nat × Nat) := W.2.2.2.2.1
def q_W.gF (W : q_W) : Int32 := W.2.2.2.2.2.1
def q_W.gB (W : q_W) : Int32 := W.2.2.2.2.2.2.1
def q_W.gN (W : q_W) : Nat := W.2.2.2.2.2.2.2.1
def q_W.kd (W : q_W) : Bool := W.2.2.2.2.2.2.2.2.1
def q_W.K (W : q_W) : List (Nat × Nat × q_cs) := W.2.2.2.2.2.2.2.2.2.1
def q_W.t0 (W : q_W) : Int := W.2.2.2.2.2.2.2.2.2.2.1
def q_W.nr (W : q_W) : Int32 := W.2.2.2.2.2.2.2.2.2.2.2
def mkW (S : q_SK) (T : q_SK) (n : Nat) (sg : (Nat → Nat → Int32)) (ba : Option (Nat × Nat)) (gF : Int32) (gB : Int32) (gN : Nat) (kd : Bool) (K : List (Nat × Nat × q_cs)) (t0 : Int) (nr : Int32) : q_W := (S, T, n, sg, ba, gF, gB, gN, kd, K, t0, nr)
def w_kc (W : q_W) : Int32 := if W.kd = true then nI W.K.length else -1
def w_b1 (W : q_W) : Int32 := match W.ba with
  | none => -1
  | some p => nI p.1
def w_b2 (W : q_W) : Int32 := match W.ba with
  | none => -1
  | some p => nI p.2
def okW (W : q_W) : Prop := (okSK W.S ∧ okSK W.T) ∧ (W.n ≤ 12 ∧ ∀ i, i < W.n → okS1 (W.sg i)) ∧ (∀ p, W.ba = some p → okB W.n W.sg p.1 p.2) ∧ (okG W.gF W.gB (nI W.gN) ∧ 1 ≤ W.gN ∧ W.gN ≤ 10) ∧ (W.kd = false → W.K = []) ∧ W.K.length ≤ 100 ∧ (-300 ≤ W.t0 ∧ W.t0 ≤ 300) ∧ ∀ e, e ∈ W.K → e.1 < 10 ∧ e.2.1 < 10 ∧ ¬ lost e.2.2.1 e.2.2.2.1
/-- shapes that stay below the cells made later -/
def zx (z : Nat) (Z Z' : q_Z) : Prop := ∀ a, a < z + 53 → zK Z' a = zK Z a ∧ zL Z' a = zL Z a
theorem zx.rf {z : Nat} {Z : q_Z} : zx z Z Z := fun _ _ => ⟨rfl, rfl⟩
theorem zx.tr {z : Nat} {Z Z1 Z2 : q_Z} (a : zx z Z Z1) (b : zx z Z1 Z2) : zx z Z Z2 := fun x hx => ⟨(b x hx).1.trans (a x hx).1, (b x hx).2.trans (a x hx).2⟩
theorem zT.ex {Z Z' : q_Z} {M M' : q_C} {t : Nat} (h : zT Z M t) (hz : ∀ a, t ≤ a → a ≤ t + 2 → zK Z' a = zK Z a ∧ zL Z' a = zL Z a) (hr : M'.2.2 t = M.2.2 t) : zT Z' M' t := by
  obtain ⟨h1, h2, h3, h4, h5, h6, h7⟩ := h
  have r : ∀ k, gR M' t k = gR M t k := fun k => congrFun hr k
  refine ⟨?_, ?_, ?_, ?_, ?_, ?_, ?_⟩
  · rw [(hz t (by omega) (by omega)).1]; exact h1
  · rw [r]; exact h2
  · rw [r]; exact h3
  · rw [(hz (t + 1) (by omega) (by omega)).1]; exact h4
  · rw [(hz (t + 1) (by omega) (by omega)).2]; exact h5
  · rw [(hz (t + 2) (by omega) (by omega)).1]; exact h6
  · rw [(hz (t + 2) (by omega) (by omega)).2]; exact h7
theorem zY.ex {Z Z' : q_Z} {M M' : q_C} {o : Nat} (h : zY Z M o) (hz : ∀ a, o ≤ a → a ≤ o + 6 → zK Z' a = zK Z a ∧ zL Z' a = zL Z a) (hr : ∀ a, o ≤ a → a ≤ o + 6 → M'.2.2 a = M.2.2 a) : zY Z' M' o := by
  obtain ⟨h1, h2, h3, h4, h5⟩ := h
  have r : ∀ k, gR M' o k = gR M o k := fun k => congrFun (hr o (by omega) (by omega)) k
  refine ⟨?_, ?_, ?_, ?_, ?_⟩
  · rw [(hz o (by omega) (by omega)).1]; exact h1
  · rw [r]; exact h2
  · rw [r]; exact h3
  · exact h4.ex (fun a q1 q2 => hz a (by omega) (by omega)) (hr _ (by omega) (by omega))
  · exact h5.ex (fun a q1 q2 => hz a (by omega) (by omega)) (hr _ (by omega) (by omega))
theorem zB.ex {Z Z' : q_Z} {M M' : q_C} {z : Nat} (h : zB Z M z) (hz : zx z Z Z') (hr : ∀ a, z ≤ a → a ≤ z + 34 → a ≠ z + 16 → M'.2.2 a = M.2.2 a) : zB Z' M' z := by
  obtain ⟨h1, h2, h3, h4, h5, h6, h7, h8, h9⟩ := h
  have r : ∀ a k, z ≤ a → a ≤ z + 34 → a ≠ z + 16 → gR M' a k = gR M a k := fun a k q1 q2 q3 => congrFun (hr a q1 q2 q3) k
  have y : ∀ a, a < z + 53 → zK Z' a = zK Z a := fun a q => (hz a q).1
  have yl : ∀ a, a < z + 53 → zL Z' a = zL Z a := fun a q => (hz a q).2
  refine ⟨?_, ?_, ?_, ?_, ?_, ?_, ?_, ?_, fun i hi => ?_⟩
  · rw [y _ (by omega)]; exact h1
  · rw [r _ _ (by omega) (by omega) (by omega), r _ _ (by omega) (by omega) (by omega), r _ _ (by omega) (by omega) (by omega), r _ _ (by omega) (by omega) (by omega), r _ _ (by omega) (by omega) (by omega), r _ _ (by omega) (by omega) (by omega), r _ _ (by omega) (by omega) (by omega)]; exact h2
  · exact h3.ex (fun a q1 q2 => hz a (by omega)) (fun a q1 q2 => hr a (by omega) (by omega) (by omega))
  · exact h4.ex (fun a q1 q2 => hz a (by omega)) (fun a q1 q2 => hr a (by omega) (by omega) (by omega))
  · rw [y _ (by omega), yl _ (by omega)]; exact h5
  · rw [y _ (by omega), yl _ (by omega)]; exact h6
  · rw [y _ (by omega), y _ (by omega), y _ (by omega)]; exact h7
  · rw [r _ _ (by omega) (by omega) (by omega), r _ _ (by omega) (by omega) (by omega), r _ _ (by omega) (by omega) (by omega), y _ (by omega), yl _ (by omega), y _ (by omega), yl _ (by omega), y _ (by omega), yl _ (by omega)]; exact h8
  · rw [r _ _ (by omega) (by omega) (by omega), y _ (by omega)]; exact h9 i hi
/-- the class's fixed cells -/
def BF (Z : q_Z) (M : q_C) (z : Nat) (W : q_W) : Prop := zB Z M z ∧ B_sk M (z + 1) W.S ∧ B_sk M (z + 8) W.T ∧ B_sg M z W.n W.sg ∧ (gI M z 4 = w_b1 W ∧ gI M z 5 = w_b2 W) ∧ (gI M z 6 = W.gF ∧ gI M z 7 = W.gB ∧ gI M z 8 = nI W.gN) ∧ gI M z 10 = w_kc W ∧ gI M z 11 = W.nr
/-- nothing of the fixed cells has changed but comet, aimed way, patch -/
def bfr (z : Nat) (M M' : q_C) : Prop := q_ag (fun a => (z ≤ a ∧ a ≤ z + 15) ∨ (z + 23 ≤ a ∧ a ≤ z + 52)) M M' ∧ ∀ a, z + 17 ≤ a → a ≤ z + 22 → M'.2.2 a = M.2.2 a
theorem bfr.rf {z : Nat} {M : q_C} : bfr z M M := ⟨q_ag.rf, fun _ _ _ => rfl⟩
theorem bfr.tr {z : Nat} {M M1 M2 : q_C} (a : bfr z M M1) (b : bfr z M1 M2) : bfr z M M2 := ⟨a.1.tr b.1, fun x h1 h2 => (b.2 x h1 h2).trans (a.2 x h1 h2)⟩
theorem amv.fr {z : Nat} {M M' : q_C} (a : amv z M M') : bfr z M M' := ⟨a.1.wk (fun x hx => by omega), fun x _ _ => by rw [a.2]⟩
theorem BF.mv {Z Z' : q_Z} {M M' : q_C} {z : Nat} {W : q_W} (h : BF Z M z W) (hz : zx z Z Z') (hf : bfr z M M') : BF Z' M' z W := by
  obtain ⟨h1, h2, h3, h4, h5, h6, h7, h8⟩ := h
  have hi : ∀ k, gI M' z k = gI M z k := fun k => hf.1.I (by omega) k
  refine ⟨h1.ex hz (fun a q1 q2 q3 => ?_), h2.ag hf.1 (fun i hi => by omega), h3.ag hf.1 (fun i hi => by omega), h4.ag hf.1 (by omega) (fun i hi => by omega), ?_, ?_, ?_, ?_⟩
  · by_cases q : a ≤ z + 15 ∨ z + 23 ≤ a
    · exact (hf.1 a (by omega)).2.2
    · exact hf.2 a (by omega) (by omega)
  · rw [hi, hi]; exact h5
  · rw [hi, hi, hi]; exact h6
  · rw [hi]; exact h7
  · rw [hi]; exact h8
/-! the rows made later -/
def cnt (f : Nat → Bool) : Nat → Nat
  | 0 => 0
  | n + 1 => cnt f n + (if f n = true then 1 else 0)
theorem cnt_le (f : Nat → Bool) (n : Nat) : cnt f n ≤ n := by
  induction n with
  | zero => exact Nat.le_refl _
  | succ n ih =>
    show cnt f n + (if f n = true then 1 else 0) ≤ _
    split <;> omega
theorem cnt_eq {f g : Nat → Bool} {n : Nat} (h : ∀ k, k < n → g k = f k) : cnt g n = cnt f n := by
  induction n with
  | zero => rfl
  | succ n ih =>
    show cnt g n + (if g n = true then 1 else 0) = cnt f n + (if f n = true then 1 else 0)
    rw [ih (fun k hk => h k (by omega)), h n (by omega)]
theorem cnt_up {f g : Nat → Bool} {n k0 : Nat} (h0 : k0 < n) (h1 : f k0 = false) (h2 : g k0 = true) (h : ∀ k, k < n → k ≠ k0 → g k = f k) : cnt g n = cnt f n + 1 := by
  induction n with
  | zero => omega
  | succ n ih =>
    show cnt g n + (if g n = true then 1 else 0) = cnt f n + (if f n = true then 1 else 0) + 1
    by_cases e : k0 = n
    · subst e
      rw [cnt_eq (fun k hk => h k (by omega) (by omega)), h1, h2]
      rfl
    · rw [ih (by omega) (fun k hk hne => h k (by omega) hne), h n (by omega) (by omega)]
      omega
def rwb (M : q_C) (z : Nat) (k : Nat) : Bool := (gR M (z + 16) k).isSome
def plb (M : q_C) (z : Nat) (k : Nat) : Bool := ((gR M (z + 16) k).bind fun w => gR M w 10).isSome
def zR (Z : q_Z) (M : q_C) (z : Nat) : Prop :=
  (∀ k w, k < 100 → gR M (z + 16) k = some w → z + 53 ≤ w ∧ zK Z w = 15 ∧ ∀ p, gR M w 10 = some p → z + 53 ≤ p ∧ zK Z p = 2 ∧ zL Z p = 602) ∧
  (∀ k k' w, k < 100 → k' < 100 → gR M (z + 16) k = some w → gR M (z + 16) k' = some w → k = k') ∧
  (∀ k k' w w' p, k < 100 → k' < 100 → gR M (z + 16) k = some w → gR M (z + 16) k' = some w' → gR M w 10 = some p → gR M w' 10 = some p → k = k') ∧
  zS Z = z + 53 + cnt (rwb M z) 100 + cnt (plb M z) 100 ∧ zC Z ≤ 260000 + 11 * cnt (rwb M z) 100 + 602 * cnt (plb M z) 100 ∧ ∀ a, zS Z ≤ a → zK Z a = 0
theorem zR.mv {Z : q_Z} {M M' : q_C} {z : Nat} (h : zR Z M z) (hr : ∀ a, a = z + 16 ∨ z + 53 ≤ a → M'.2.2 a = M.2.2 a) : zR Z M' z := by
  obtain ⟨h1, h2, h3, h4, h5, h6⟩ := h
  have r : ∀ a k, (a = z + 16 ∨ z + 53 ≤ a) → gR M' a k = gR M a k := fun a k q => congrFun (hr a q) k
  have r16 : ∀ k, gR M' (z + 16) k = gR M (z + 16) k := fun k => r _ k (Or.inl rfl)
  have e1 : ∀ k, rwb M' z k = rwb M z k := fun k => by unfold rwb; rw [r16]
  have e2 : ∀ k, k < 100 → plb M' z k = plb M z k := fun k hk => by
    unfold plb
    rw [r16]
    cases hw : gR M (z + 16) k with
    | none => rfl
    | some w =>
      rw [q_bis, q_bis, r w 10 (Or.inr (h1 k w hk hw).1)]
  refine ⟨fun k w hk hw => ?_, fun k k' w hk hk' hw hw' => ?_, fun k k' w w' p hk hk' hw hw' hp hp' => ?_, ?_, ?_, h6⟩
  · rw [r16] at hw
    obtain ⟨a1, a2, a3⟩ := h1 k w hk hw
    exact ⟨a1, a2, fun p hp => a3 p (by rw [r w 10 (Or.inr a1)] at hp; exact hp)⟩
  · rw [r16] at hw hw'
    exact h2 k k' w hk hk' hw hw'
  · rw [r16] at hw hw'
    rw [r w 10 (Or.inr (h1 k w hk hw).1)] at hp
    rw [r w' 10 (Or.inr (h1 k' w' hk' hw').1)] at hp'
    exact h3 k k' w w' p hk hk' hw hw' hp hp'
  · rw [cnt_eq (fun k _ => e1 k), cnt_eq e2]; exact h4
  · rw [cnt_eq (fun k _ => e1 k), cnt_eq e2]; exact h5
/-- a place as one long -/
def pk2 (x y : Int64) : Int64 := (x <<< 32) ||| (y &&& 4294967295)
def B_tr (M : q_C) (w : Nat) (S : q_SK) (t0 : Int) (c0 : q_cs) : Prop := ∃ (p : Nat) (lo hi : Int), gR M w 10 = some p ∧ -300 ≤ lo ∧ lo ≤ 301 ∧ -301 ≤ hi ∧ hi ≤ 300 ∧ gI M w 8 = sp lo ∧ gI M w 9 = sp hi ∧ ∀ t, -300 ≤ t → t ≤ 300 → ((lo ≤ t ∧ t ≤ hi) ↔ (TT S t0 c0 t).isSome = true) ∧ ∀ c, TT S t0 c0 t = some c → gJ M p (t + 300).toNat = pk2 c.1 c.2.1 ∧ gJ M p (t + 301).toNat = pk2 (c.1 + c.2.2.1) (c.2.1 + c.2.2.2)
def B_kp (M : q_C) (z : Nat) (S : q_SK) (t0 : Int) (K : List (Nat × Nat × q_cs)) : Prop := ∀ k e, K[k]? = some e → ∃ (w : Nat) (x y u v : Int32), gR M (z + 16) k = some w ∧ e.2.2 = (x.toInt64, y.toInt64, u.toInt64, v.toInt64) ∧ wst M w (nI e.1) (nI e.2.1) x y u v (sp t0) ∧ (gI M w 7 = 0 ∨ (gI M w 7 = 1 ∧ B_tr M w S t0 e.2.2))
theorem B_tr.ag {P : Nat → Prop} {M M' : q_C} {w : Nat} {S : q_SK} {t0 : Int} {c0 : q_cs} (h : B_tr M w S t0 c0) (ha : q_ag P M M') (hw : P w) (hp : ∀ p, gR M w 10 = some p → P p) : B_tr M' w S t0 c0 := by
  obtain ⟨p, lo, hi, h1, h2, h3, h4, h5, h6, h7, h8⟩ := h
  have hpp := hp p h1
  refine ⟨p, lo, hi, ?_, h2, h3, h4, h5, ?_, ?_, fun t q1 q2 => ⟨(h8 t q1 q2).1, fun c hc => ?_⟩⟩
  · rw [ha.R hw]; exact h1
  · rw [ha.I hw]; exact h6
  · rw [ha.I hw]; exact h7
  · rw [ha.J hpp, ha.J hpp]; exact (h8 t q1 q2).2 c hc
theorem B_kp.ag {P : Nat → Prop} {Z : q_Z} {M M' : q_C} {z : Nat} {S : q_SK} {t0 : Int} {K : List (Nat × Nat × q_cs)} (h : B_kp M z S t0 K) (hR : zR Z M z) (hK : K.length ≤ 100) (ha : q_ag P M M') (h16 : P (z + 16)) (hp : ∀ a, z + 53 ≤ a → P a) : B_kp M' z S t0 K := by
  intro k e he
  have hk : k < K.length := (List.getElem?_eq_some_iff.mp he).1
  obtain ⟨w, x, y, u, v, h1, h2, h3, h4⟩ := h k e he
  obtain ⟨a1, a2, a3⟩ := hR.1 k w (by omega) h1
  refine ⟨w, x, y, u, v, ?_, h2, h3.ag ha (hp w a1), ?_⟩
  · rw [ha.R h16]; exact h1
  · rw [ha.I (hp w a1)]
    rcases h4 with q | ⟨q1, q2⟩
    · exact Or.inl q
    · exact Or.inr ⟨q1, q2.ag ha (hp w a1) (fun p hp2 => hp p (a3 p hp2).1)⟩
/-- the class holds a world -/
def BW (Z : q_Z) (M : q_C) (z : Nat) (W : q_W) : Prop := BF Z M z W ∧ zR Z M z ∧ B_kp M z W.T W.t0 W.K
theorem BW.ag {Z : q_Z} {M M' : q_C} {z : Nat} {W : q_W} (h : BW Z M z W) (hW : okW W) (ha : q_ag (fun a => ¬ (z + 35 ≤ a ∧ a ≤ z + 52)) M M') : BW Z M' z W := by
  obtain ⟨⟨h1, h2, h3, h4, h5, h6, h7, h8⟩, hR, hK⟩ := h
  have hi : ∀ k, gI M' z k = gI M z k := fun k => ha.I (by omega) k
  refine ⟨⟨h1.ex zx.rf (fun a q1 q2 q3 => (ha a (by omega)).2.2), h2.ag ha (fun i hi => by omega), h3.ag ha (fun i hi => by omega), h4.ag ha (by omega) (fun i hi => by omega), ?_, ?_, ?_, ?_⟩, hR.mv (fun a q => (ha a (by omega)).2.2), hK.ag hR hW.2.2.2.2.2.1 ha (by omega) (fun a q => by omega)⟩
  · rw [hi, hi]; exact h5
  · rw [hi, hi, hi]; exact h6
  · rw [hi]; exact h7
  · rw [hi]; exact h8
/-- the model holds a world -/
def M_kp (M : q_C) (m : Nat) (S : q_SK) (t0 : Int) (K : List (Nat × Nat × q_cs)) : Prop := ∀ k e, K[k]? = some e → gI M (m + 8) (2 * k) = nI e.1 ∧ gI M (m + 8) (2 * k + 1) = nI e.2.1 ∧ M_tr M m k S t0 e.2.2
def MF (Z : q_Z) (M : q_C) (m : Nat) (W : q_W) : Prop := zM Z M m ∧ M_sk M m W.S ∧ M_tb M (m + 3) (m + 4) 0 W.T.1 ∧ M_sg M m W.n W.sg ∧ (gI M m 11 = w_b1 W ∧ gI M m 12 = w_b2 W) ∧ (gI M m 8 = W.gF ∧ gI M m 9 = W.gB ∧ gI M m 10 = nI W.gN) ∧ gI M m 13 = w_kc W ∧ gI M m 14 = sp W.t0 ∧ gI M m 21 = W.nr
def MW (Z : q_Z) (M : q_C) (m : Nat) (W : q_W) : Prop := MF Z M m W ∧ M_kp M m W.T W.t0 W.K
theorem M_tb.ag {P : Nat → Prop} {M M' : q_C} {no to w : Nat} {T : q_TB} (h : M_tb M no to w T) (ha : q_ag P M M') (h1 : P no) (h2 : P to) : M_tb M' no to w T := by
  unfold M_tb
  rw [ha.I h1]
  refine ⟨h.1, h.2.1, fun i hi => ?_⟩
  rw [ha.I h2, ha.I h2]
  exact h.2.2 i hi
theorem M_tr.ag {P : Nat → Prop} {M M' : q_C} {m k : Nat} {S : q_SK} {t0 : Int} {c0 : q_cs} (h : M_tr M m k S t0 c0) (ha : q_ag P M M') (hp : ∀ i, i < 18 → P (m + i)) : M_tr M' m k S t0 c0 := by
  obtain ⟨lo, hi, b1, b2, b3, b4, b5, b6, b7⟩ := h
  refine ⟨lo, hi, b1, b2, b3, b4, ?_, ?_, fun t q1 q2 => ⟨(b7 t q1 q2).1, fun c hc => ?_⟩⟩
  · rw [ha.I (hp 9 (by omega))]; exact b5
  · rw [ha.I (hp 9 (by omega))]; exact b6
  · unfold st4
    rw [ha.J (hp 10 (by omega)), ha.J (hp 11 (by omega)), ha.J (hp 12 (by omega)), ha.J (hp 13 (by omega))]
    exact (b7 t q1 q2).2 c hc
theorem MW.ag {Z Z' : q_Z} {M M' : q_C} {z : Nat} {W : q_W} (h : MW Z M (z + 35) W) (hz : zx z Z Z') (ha : q_ag (fun a => z + 35 ≤ a ∧ a ≤ z + 52) M M') : MW Z' M' (z + 35) W := by
  obtain ⟨⟨h1, h2, h3, h4, h5, h6, h7, h8, h9⟩, hK⟩ := h
  have hi : ∀ k, gI M' (z + 35) k = gI M (z + 35) k := fun k => ha.I (by omega) k
  refine ⟨⟨⟨?_, fun k hk => ?_⟩, ⟨h2.1.ag ha (by omega) (by omega), h2.2.1.ag ha (by omega) (by omega), ?_, ?_⟩, h3.ag ha (by omega) (by omega), ⟨h4.1, ?_, fun i hi k hk => ?_⟩, ?_, ?_, ?_, ?_, ?_⟩, fun k e he => ?_⟩
  · rw [(hz _ (by omega)).1]; exact h1.1
  · rw [ha.R (by omega), (hz _ (by omega)).1, (hz _ (by omega)).2]; exact h1.2 k hk
  · rw [ha.I (by omega)]; exact h2.2.2.1
  · rw [ha.I (by omega)]; exact h2.2.2.2
  · rw [hi]; exact h4.2.1
  · rw [ha.I (by omega)]; exact h4.2.2 i hi k hk
  · rw [hi, hi]; exact h5
  · rw [hi, hi, hi]; exact h6
  · rw [hi]; exact h7
  · rw [hi]; exact h8
  · rw [hi]; exact h9
  · obtain ⟨q1, q2, q3⟩ := hK k e he
    rw [ha.I (by omega), ha.I (by omega)]
    exact ⟨q1, q2, q3.ag ha (fun i hi => by omega)⟩
