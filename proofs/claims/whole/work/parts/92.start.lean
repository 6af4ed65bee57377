/-! the first world -/
def T00 : q_TB := (0, fun _ => 0, fun _ => 0)
def S00 : q_SK := (T00, T00, 10000000, 0)
def W00 : q_W := mkW S00 S00 0 (fun _ _ => 0) none 500 500 6 false [] 0 (-1000)
theorem okW00 : okW W00 := by
  have t : okTB T00 := ⟨by decide, fun i hi => absurd hi (Nat.not_lt_zero _)⟩
  refine ⟨⟨⟨t, t⟩, ⟨t, t⟩⟩, ⟨by decide, fun i hi => absurd hi (Nat.not_lt_zero _)⟩, fun p hp => (by cases hp), ⟨⟨by decide, by decide, by decide⟩, by decide, by decide⟩, fun _ => rfl, by decide, by decide, fun e he => (by cases he)⟩
def L53 : List (Nat × Nat) := [(16, 15), (13, 4), (14, 3), (1, 40), (1, 40), (14, 3), (1, 40), (1, 40), (13, 4), (14, 3), (1, 40), (1, 40), (14, 3), (1, 40), (1, 40), (3, 12), (4, 100), (10, 6), (15, 11), (11, 4), (1, 100), (2, 100), (2, 100), (12, 5), (12, 5), (12, 5), (12, 5), (12, 5), (12, 5), (12, 5), (12, 5), (12, 5), (12, 5), (12, 5), (12, 5), (17, 30), (1, 2), (1, 160), (1, 2), (1, 160), (1, 2), (1, 2), (1, 60), (1, 200), (1, 200), (2, 60100), (2, 60100), (2, 60100), (2, 60100), (2, 601), (2, 601), (2, 601), (2, 601)]
theorem cnt_0 {f : Nat → Bool} {n : Nat} (h : ∀ k, k < n → f k = false) : cnt f n = 0 := by
  induction n with
  | zero => rfl
  | succ n ih =>
    show cnt f n + (if f n = true then 1 else 0) = 0
    rw [ih (fun k hk => h k (by omega)), h n (by omega)]
    rfl
theorem zF_app : ∀ (l l' : List (Nat × Nat)) (Z : q_Z), zF (zF Z l) l' = zF Z (l ++ l') := by
  intro l
  induction l with
  | nil => intro l' Z; rfl
  | cons e l ih => intro l' Z; exact ih l' (zN Z e.1 e.2)
theorem L53_e : (L35 ++ [(17, 30)]) ++ K7_17 = L53 := by decide
theorem j_start (z : Nat) : ∃ M1 : q_C, fX6_init z (zF (q_Z0 z) [(16, 15)]) q_M0 = some (zF (q_Z0 z) L35, M1) ∧ fz (z + 35) M1 ∧ fX7_init (z + 35) (zF (q_Z0 z) (L35 ++ [(17, 30)])) M1 = some (zF (q_Z0 z) L53, n7_f M1 (z + 35)) ∧ JW (zF (q_Z0 z) L53) (n7_f M1 (z + 35)) z W00 := by
  obtain ⟨M1, a1, a2, a3, a4⟩ := e_init6 z
  have e36 : zS (zF (q_Z0 z) (L35 ++ [(17, 30)])) = z + 35 + 1 := zF_S _ _
  have b1 := e_init7 (Z := zF (q_Z0 z) (L35 ++ [(17, 30)])) (M := M1) (h := z + 35) (zF_o _ _ (zo_0 z)) (zF_at (L35 ++ [(17, 30)]) (q_Z0 z) 35 (17, 30) rfl).1 e36 (a4.up (by omega))
  rw [zF_app, L53_e] at b1
  refine ⟨M1, a1, a4, b1, ?_⟩
  clear b1 e36 a1
  have at' : ∀ i e, L53[i]? = some e → zK (zF (q_Z0 z) L53) (z + i) = e.1 ∧ zL (zF (q_Z0 z) L53) (z + i) = e.2 := fun i e h => zF_at L53 (q_Z0 z) i e h
  obtain ⟨⟨r0, r1, r2, r9, r12, r13, r14⟩, ⟨y0, y1, y2, y3⟩, ⟨t0, t1, t2, t3⟩, ⟨u0, u1, u2, u3⟩, ⟨p0, p1, p2⟩⟩ := m6_R z
  obtain ⟨⟨i3, i4, i5, i6, i7, i8, i10, i11⟩, ⟨c0, c1, c2, c3⟩, ⟨j0, j1, j2, j3⟩⟩ := m6_I z
  have gr : ∀ a k, a ≠ z + 15 → a < z + 23 → gR M1 a k = gR (m6G z) a k := fun a k q1 q2 => a3.R ⟨q1, q2⟩ k
  have gi : ∀ a k, a ≠ z + 15 → a < z + 23 → gI M1 a k = gI (m6G z) a k := fun a k q1 q2 => a3.I ⟨q1, q2⟩ k
  have gj : ∀ a k, a ≠ z + 15 → a < z + 23 → gJ M1 a k = gJ (m6G z) a k := fun a k q1 q2 => a3.J ⟨q1, q2⟩ k
  have tb : ∀ t, t ≠ z + 15 → t < z + 23 → gI (m6G z) t 2 = 0 → B_tb M1 t T00 := fun t q1 q2 q3 => ⟨by decide, by rw [gi t 2 q1 q2]; exact q3, fun i hi => absurd hi (Nat.not_lt_zero _)⟩
  have zt : ∀ t, t + 2 < 15 → L53[t]? = some (14, 3) → L53[t + 1]? = some (1, 40) → L53[t + 2]? = some (1, 40) → gR (m6G z) (z + t) 0 = some (z + t + 1) → gR (m6G z) (z + t) 1 = some (z + t + 2) → zT (zF (q_Z0 z) L53) M1 (z + t) := by
    intro t q1 q2 q3 q4 q5 q6
    refine ⟨(at' t _ q2).1, ?_, ?_, (at' (t + 1) _ q3).1, (at' (t + 1) _ q3).2, (at' (t + 2) _ q4).1, (at' (t + 2) _ q4).2⟩
    · rw [gr _ _ (by omega) (by omega)]; exact q5
    · rw [gr _ _ (by omega) (by omega)]; exact q6
  have hzB : zB (zF (q_Z0 z) L53) M1 z := by
    refine ⟨(at' 0 (16, 15) rfl).1, ⟨?_, ?_, ?_, ?_, ?_, ?_, ?_⟩, ⟨(at' 1 (13, 4) rfl).1, ?_, ?_, zt 2 (by decide) rfl rfl rfl t0 t1, zt 5 (by decide) rfl rfl rfl t2 t3⟩, ⟨(at' 8 (13, 4) rfl).1, ?_, ?_, zt 9 (by decide) rfl rfl rfl u0 u1, zt 12 (by decide) rfl rfl rfl u2 u3⟩, at' 15 (3, 12) rfl, at' 16 (4, 100) rfl, ⟨(at' 17 (10, 6) rfl).1, (at' 18 (15, 11) rfl).1, (at' 19 (11, 4) rfl).1⟩, ⟨?_, ?_, ?_, (at' 20 (1, 100) rfl).1, (at' 20 (1, 100) rfl).2, (at' 21 (2, 100) rfl).1, (at' 21 (2, 100) rfl).2, (at' 22 (2, 100) rfl).1, (at' 22 (2, 100) rfl).2⟩, fun i hi => ⟨a2 i hi, ?_⟩⟩
    · rw [gr _ _ (by omega) (by omega)]; exact r0
    · rw [gr _ _ (by omega) (by omega)]; exact r1
    · rw [gr _ _ (by omega) (by omega)]; exact r2
    · rw [gr _ _ (by omega) (by omega)]; exact r9
    · rw [gr _ _ (by omega) (by omega)]; exact r12
    · rw [gr _ _ (by omega) (by omega)]; exact r13
    · rw [gr _ _ (by omega) (by omega)]; exact r14
    · rw [gr _ _ (by omega) (by omega)]; exact y0
    · rw [gr _ _ (by omega) (by omega)]; exact y1
    · rw [gr _ _ (by omega) (by omega)]; exact y2
    · rw [gr _ _ (by omega) (by omega)]; exact y3
    · rw [gr _ _ (by omega) (by omega)]; exact p0
    · rw [gr _ _ (by omega) (by omega)]; exact p1
    · rw [gr _ _ (by omega) (by omega)]; exact p2
    · have hL : ∀ i, i < 12 → L53[23 + i]? = some (12, 5) := by decide
      have := (at' (23 + i) _ (hL i hi)).1
      rw [← Nat.add_assoc] at this
      exact this
  have rw0 : ∀ k, rwb M1 z k = false := fun k => by unfold rwb; rw [gr _ _ (by omega) (by omega), m6_k]; rfl
  have pl0 : ∀ k, plb M1 z k = false := fun k => by unfold plb; rw [gr _ _ (by omega) (by omega), m6_k]; rfl
  have hR : zR (zF (q_Z0 z) L53) M1 z := by
    have no : ∀ k w, gR M1 (z + 16) k = some w → False := fun k w q => by rw [gr _ _ (by omega) (by omega), m6_k] at q; cases q
    refine ⟨fun k w _ q => (no k w q).elim, fun k k' w _ _ q _ => (no k w q).elim, fun k k' w w' p _ _ q _ _ _ => (no k w q).elim, ?_, ?_, zF_o L53 _ (zo_0 z)⟩
    · rw [cnt_0 (fun k _ => rw0 k), cnt_0 (fun k _ => pl0 k)]
      rfl
    · rw [cnt_0 (fun k _ => rw0 k), cnt_0 (fun k _ => pl0 k), zF_C]
      have e1 : sml L53 ≤ 260000 := by decide
      have e2 : zC (q_Z0 z) = 0 := rfl
      omega
  have hB : BW (zF (q_Z0 z) L53) M1 z W00 := by
    refine ⟨⟨hzB, ⟨tb (z + 2) (by omega) (by omega) c0, tb (z + 5) (by omega) (by omega) c1, ?_, ?_⟩, ⟨tb (z + 9) (by omega) (by omega) c2, tb (z + 12) (by omega) (by omega) c3, ?_, ?_⟩, ⟨by decide, ?_, fun i hi => absurd hi (Nat.not_lt_zero _)⟩, ⟨?_, ?_⟩, ⟨?_, ?_, ?_⟩, ?_, ?_⟩, hR, fun k e he => (by cases he)⟩
    · rw [gj _ _ (by omega) (by omega)]; exact j0
    · rw [gj _ _ (by omega) (by omega)]; exact j1
    · rw [gj _ _ (by omega) (by omega)]; exact j2
    · rw [gj _ _ (by omega) (by omega)]; exact j3
    · rw [gi _ _ (by omega) (by omega)]; exact i3
    · rw [gi _ _ (by omega) (by omega)]; exact i4
    · rw [gi _ _ (by omega) (by omega)]; exact i5
    · rw [gi _ _ (by omega) (by omega)]; exact i6
    · rw [gi _ _ (by omega) (by omega)]; exact i7
    · rw [gi _ _ (by omega) (by omega)]; exact i8
    · rw [gi _ _ (by omega) (by omega)]; exact i10
    · rw [gi _ _ (by omega) (by omega)]; exact i11
  refine ⟨hB.ag okW00 ((n7_ag M1 (z + 35)).wk (fun a q => by omega)), ?_, okW00⟩
  obtain ⟨q0, q1, q2, q3, q4, q5, q7, q15, q16, q17, q18, q19, q20, q26, q27, q28, q29⟩ := n7_R M1 (z + 35)
  obtain ⟨k6, k8, k9, k10, k11, k12, k13, k14, k21⟩ := n7_I M1 (z + 35)
  have z0 : ∀ a q, z + 35 < a → a ≠ z + 35 + 5 → gI (n7_f M1 (z + 35)) a q = 0 := fun a q h1 h2 => by
    rw [(n7_ag M1 (z + 35)).I (by omega)]
    exact congrFun (a4 a (by omega)).1 q
  have hL : ∀ k, k < 17 → L53[36 + k]? = some ((if k < 9 then 1 else 2), mLn k) := by decide
  have gR' : ∀ k, k < 17 → gR (n7_f M1 (z + 35)) (z + 35) (mFd k) = some (z + 35 + 1 + k) := by
    intro k hk
    rcases (show k = 0 ∨ k = 1 ∨ k = 2 ∨ k = 3 ∨ k = 4 ∨ k = 5 ∨ k = 6 ∨ k = 7 ∨ k = 8 ∨ k = 9 ∨ k = 10 ∨ k = 11 ∨ k = 12 ∨ k = 13 ∨ k = 14 ∨ k = 15 ∨ k = 16 by omega) with rfl | rfl | rfl | rfl | rfl | rfl | rfl | rfl | rfl | rfl | rfl | rfl | rfl | rfl | rfl | rfl | rfl
    · exact q0
    · exact q1
    · exact q2
    · exact q3
    · exact q4
    · exact q5
    · exact q7
    · exact q15
    · exact q16
    · exact q17
    · exact q18
    · exact q19
    · exact q20
    · exact q26
    · exact q27
    · exact q28
    · exact q29
  have mt : ∀ no to w, z + 35 < no → no ≠ z + 35 + 5 → M_tb (n7_f M1 (z + 35)) no to w T00 := fun no to w h1 h2 => ⟨by decide, z0 no w h1 h2, fun i hi => absurd hi (Nat.not_lt_zero _)⟩
  refine ⟨⟨⟨(at' 35 (17, 30) rfl).1, fun k hk => ⟨gR' k hk, ?_⟩⟩, ⟨mt _ _ _ (by omega) (by omega), mt _ _ _ (by omega) (by omega), n7_v50 _ _, ?_⟩, mt _ _ _ (by omega) (by omega), ⟨by decide, k6, fun i hi => absurd hi (Nat.not_lt_zero _)⟩, ⟨k11, k12⟩, ⟨k8, k9, k10⟩, k13, k14, k21⟩, fun k e he => (by cases he)⟩
  · have := at' (36 + k) _ (hL k hk)
    rw [← Nat.add_assoc] at this
    exact this
  · rw [n7_v5 _ _ _ (by decide)]
    exact congrFun (a4 (z + 35 + 5) (by omega)).1 1
