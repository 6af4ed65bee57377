/-! the constructors -/
def zF : q_Z → List (Nat × Nat) → q_Z
  | Z, [] => Z
  | Z, e :: l => zF (zN Z e.1 e.2) l
def zo (Z : q_Z) : Prop := ∀ a, zS Z ≤ a → zK Z a = 0
theorem zo.n {Z : q_Z} (h : zo Z) (k n : Nat) : zo (zN Z k n) := fun a ha => by
  have : zS (zN Z k n) = zS Z + 1 := rfl
  rw [zN_K _ _ _ (by omega)]
  exact h a (by omega)
theorem zF_S : ∀ (l : List (Nat × Nat)) (Z : q_Z), zS (zF Z l) = zS Z + l.length := by
  intro l
  induction l with
  | nil => intro Z; rfl
  | cons e l ih =>
    intro Z
    show zS (zF (zN Z e.1 e.2) l) = _
    rw [ih, List.length_cons]
    have : zS (zN Z e.1 e.2) = zS Z + 1 := rfl
    omega
theorem zF_o : ∀ (l : List (Nat × Nat)) (Z : q_Z), zo Z → zo (zF Z l) := by
  intro l
  induction l with
  | nil => intro Z h; exact h
  | cons e l ih => intro Z h; exact ih _ (h.n _ _)
theorem zF_K : ∀ (l : List (Nat × Nat)) (Z : q_Z) (a : Nat), a < zS Z → zK (zF Z l) a = zK Z a ∧ zL (zF Z l) a = zL Z a := by
  intro l
  induction l with
  | nil => intro Z a _; exact ⟨rfl, rfl⟩
  | cons e l ih =>
    intro Z a h
    have : zS (zN Z e.1 e.2) = zS Z + 1 := rfl
    obtain ⟨h1, h2⟩ := ih (zN Z e.1 e.2) a (by omega)
    refine ⟨h1.trans (zN_K _ _ _ (by omega)), h2.trans (zN_L _ _ _ (by omega))⟩
theorem zF_at : ∀ (l : List (Nat × Nat)) (Z : q_Z) (i : Nat) (e : Nat × Nat), l[i]? = some e → zK (zF Z l) (zS Z + i) = e.1 ∧ zL (zF Z l) (zS Z + i) = e.2 := by
  intro l
  induction l with
  | nil => intro Z i e h; cases h
  | cons x l ih =>
    intro Z i e h
    cases i with
    | zero =>
      have hx : x = e := by simpa using h
      subst hx
      obtain ⟨h1, h2⟩ := zF_K l (zN Z x.1 x.2) (zS Z) (Nat.lt_succ_self _)
      exact ⟨h1.trans (zN_k _ _ _), h2.trans (zN_l _ _ _)⟩
    | succ i =>
      have hx : l[i]? = some e := by simpa using h
      have := ih (zN Z x.1 x.2) i e hx
      rw [show zS (zN Z x.1 x.2) + i = zS Z + (i + 1) by have : zS (zN Z x.1 x.2) = zS Z + 1 := rfl; omega] at this
      exact this
def sml : List (Nat × Nat) → Nat
  | [] => 0
  | e :: l => e.2 + sml l
theorem zF_C : ∀ (l : List (Nat × Nat)) (Z : q_Z), zC (zF Z l) = zC Z + sml l := by
  intro l
  induction l with
  | nil => intro Z; rfl
  | cons e l ih =>
    intro Z
    show zC (zF (zN Z e.1 e.2) l) = _
    rw [ih]
    have : zC (zN Z e.1 e.2) = zC Z + e.2 := rfl
    show _ = zC Z + (e.2 + sml l)
    omega
/-- nothing is written from s on -/
def fz (s : Nat) (M : q_C) : Prop := ∀ a, s ≤ a → M.1 a = (fun _ => 0) ∧ M.2.1 a = (fun _ => 0) ∧ M.2.2 a = (fun _ => none)
theorem fz.up {s s' : Nat} {M : q_C} (h : fz s M) (hs : s ≤ s') : fz s' M := fun a ha => h a (by omega)
theorem fz_I {s : Nat} {M : q_C} (h : fz s M) {a : Nat} (ha : a < s) (k : Nat) (v : Int32) : fz s (sI M a k v) := fun b hb => ⟨(q_u2a _ _ _ _ (by omega)).trans (h b hb).1, (h b hb).2.1, (h b hb).2.2⟩
theorem fz_J {s : Nat} {M : q_C} (h : fz s M) {a : Nat} (ha : a < s) (k : Nat) (v : Int64) : fz s (sJ M a k v) := fun b hb => ⟨(h b hb).1, (q_u2a _ _ _ _ (by omega)).trans (h b hb).2.1, (h b hb).2.2⟩
theorem fz_R {s : Nat} {M : q_C} (h : fz s M) {a : Nat} (ha : a < s) (k : Nat) (v : Option Nat) : fz s (sR M a k v) := fun b hb => ⟨(h b hb).1, (h b hb).2.1, (q_u2a _ _ _ _ (by omega)).trans (h b hb).2.2⟩
theorem cN_id {s : Nat} {M : q_C} (h : fz s M) : cN M s = M := by
  obtain ⟨h1, h2, h3⟩ := h s (Nat.le_refl _)
  unfold cN
  refine Prod.ext (funext fun b => funext fun j => ?_) (Prod.ext (funext fun b => funext fun j => ?_) (funext fun b => funext fun j => ?_))
  · dsimp only
    split
    · rename_i e; rw [e, h1]
    · rfl
  · dsimp only
    split
    · rename_i e; rw [e, h2]
    · rfl
  · dsimp only
    split
    · rename_i e; rw [e, h3]
    · rfl
/-- a table -/
def tbI (M : q_C) (h s : Nat) : q_C := sI (sR (sR M h 0 (some s)) h 1 (some (s + 1))) h 2 0
theorem fz_tb {n h s : Nat} {M : q_C} (hf : fz n M) (hh : h < n) : fz n (tbI M h s) := fz_I (fz_R (fz_R hf hh _ _) hh _ _) hh _ _
theorem e_init4 {Z : q_Z} {M : q_C} {h : Nat} (ho : zo Z) (hk : zK Z h = 14) (hh : h < zS Z) (hf : fz (zS Z) M) : fX4_init h Z M = some (zF Z [(1, 40), (1, 40)], tbI M h (zS Z)) := by
  have k1 : zK (zN Z 1 40) h = 14 := by rw [zN_K _ _ _ (by omega)]; exact hk
  have s1 : zS (zN Z 1 40) = zS Z + 1 := rfl
  have k2 : zK (zN (zN Z 1 40) 1 40) h = 14 := by rw [zN_K _ _ _ (by omega)]; exact k1
  unfold fX4_init fX4_init_b9 fX4_init_b17
  rw [q_gdk (ho _ (Nat.le_refl _)), cN_id hf, q_gdk k1]
  simp only [q_nm]
  rw [q_gdk (ho.n 1 40 _ (Nat.le_refl _)), s1, cN_id (fz_R (hf.up (by omega)) (by omega) _ _), q_gdk k2, q_gdk k2]
  rfl
/-- a sky -/
def skI (M : q_C) (h s : Nat) : q_C := sJ (sJ (sR (tbI (sR (tbI M s (s + 1)) h 0 (some s)) (s + 3) (s + 4)) h 1 (some (s + 3))) h 2 10000000) h 3 0
theorem fz_sk {n h s : Nat} {M : q_C} (hf : fz n M) (hh : h < n) (hs : s + 3 < n) : fz n (skI M h s) := fz_J (fz_J (fz_R (fz_tb (fz_R (fz_tb hf (by omega)) hh _ _) hs) hh _ _) hh _ _) hh _ _
theorem e_init3 {Z : q_Z} {M : q_C} {h : Nat} (ho : zo Z) (hk : zK Z h = 13) (hh : h < zS Z) (hf : fz (zS Z) M) : fX3_init h Z M = some (zF Z [(14, 3), (1, 40), (1, 40), (14, 3), (1, 40), (1, 40)], skI M h (zS Z)) := by
  have o1 := ho.n 14 3
  have f1 : fz (zS (zN Z 14 3)) M := hf.up (Nat.le_succ _)
  have e1 := e_init4 (h := zS Z) o1 (zN_k _ _ _) (Nat.lt_succ_self _) f1
  have oA := zF_o [(14, 3), (1, 40), (1, 40)] Z ho
  have sA : zS (zF Z [(14, 3), (1, 40), (1, 40)]) = zS Z + 3 := rfl
  have kA : zK (zF Z [(14, 3), (1, 40), (1, 40)]) h = 13 := by rw [(zF_K _ Z h hh).1]; exact hk
  have fA : fz (zS Z + 3) (sR (tbI M (zS Z) (zS Z + 1)) h 0 (some (zS Z))) := fz_R (fz_tb (hf.up (by omega)) (by omega)) (by omega) _ _
  have e2 := e_init4 (Z := zN (zF Z [(14, 3), (1, 40), (1, 40)]) 14 3) (h := zS Z + 3) (oA.n 14 3) (zN_k _ _ _) (Nat.lt_succ_self _) (fA.up (Nat.le_succ _))
  have kB : zK (zF Z [(14, 3), (1, 40), (1, 40), (14, 3), (1, 40), (1, 40)]) h = 13 := by rw [(zF_K _ Z h hh).1]; exact hk
  unfold fX3_init fX3_init_b8 fX3_init_b12 fX3_init_b19 fX3_init_b23
  rw [q_gdk (ho _ (Nat.le_refl _)), cN_id hf, e1, q_b2s, show zF (zN Z 14 3) [(1, 40), (1, 40)] = zF Z [(14, 3), (1, 40), (1, 40)] from rfl, q_gdk kA]
  simp only [q_nm]
  rw [q_gdk (oA _ (Nat.le_refl _)), sA, show zS (zN Z 14 3) = zS Z + 1 from rfl, cN_id fA, e2, q_b2s, show zF (zN (zF Z [(14, 3), (1, 40), (1, 40)]) 14 3) [(1, 40), (1, 40)] = zF Z [(14, 3), (1, 40), (1, 40), (14, 3), (1, 40), (1, 40)] from rfl, q_gdk kB, q_gdk kB]
  rfl
/-- a patch -/
def ptI (M : q_C) (h s : Nat) : q_C := sI (sR (sR (sR M h 0 (some s)) h 1 (some (s + 1))) h 2 (some (s + 2))) h 3 0
theorem fz_pt {n h s : Nat} {M : q_C} (hf : fz n M) (hh : h < n) : fz n (ptI M h s) := fz_I (fz_R (fz_R (fz_R hf hh _ _) hh _ _) hh _ _) hh _ _
theorem e_init1 {Z : q_Z} {M : q_C} {h : Nat} (ho : zo Z) (hk : zK Z h = 11) (hh : h < zS Z) (hf : fz (zS Z) M) : fX1_init h Z M = some (zF Z [(1, 100), (2, 100), (2, 100)], ptI M h (zS Z)) := by
  have k1 : zK (zN Z 1 100) h = 11 := by rw [zN_K _ _ _ (by omega)]; exact hk
  have s1 : zS (zN Z 1 100) = zS Z + 1 := rfl
  have k2 : zK (zN (zN Z 1 100) 2 100) h = 11 := by rw [zN_K _ _ _ (by omega)]; exact k1
  have s2 : zS (zN (zN Z 1 100) 2 100) = zS Z + 2 := rfl
  have k3 : zK (zN (zN (zN Z 1 100) 2 100) 2 100) h = 11 := by rw [zN_K _ _ _ (by omega)]; exact k2
  unfold fX1_init fX1_init_b9 fX1_init_b17 fX1_init_b25
  rw [q_gdk (ho _ (Nat.le_refl _)), cN_id hf, q_gdk k1]
  simp only [q_nm]
  rw [q_gdk (ho.n 1 100 _ (Nat.le_refl _)), s1, cN_id (fz_R (hf.up (by omega)) (by omega) _ _), q_gdk k2, q_gdk ((ho.n 1 100).n 2 100 _ (Nat.le_refl _)), s2, cN_id (fz_R (fz_R (hf.up (by omega)) (by omega) _ _) (by omega) _ _), q_gdk k3, q_gdk k3]
  rfl
def cmI (M : q_C) (h : Nat) : q_C := sI (sI (sJ (sJ (sJ (sJ M h 0 0) h 1 0) h 2 0) h 3 0) h 4 0) h 5 0
theorem fz_cm {n h : Nat} {M : q_C} (hf : fz n M) (hh : h < n) : fz n (cmI M h) := fz_I (fz_I (fz_J (fz_J (fz_J (fz_J hf hh _ _) hh _ _) hh _ _) hh _ _) hh _ _) hh _ _
theorem e_init0 {Z : q_Z} {M : q_C} {h : Nat} (hk : zK Z h = 10) : fX0_init h Z M = some (cmI M h) := by
  unfold fX0_init
  rw [q_gdk hk]
  simp only [q_nm]
  rw [q_gdc (by decide)]
  rfl
def wyI (M : q_C) (h : Nat) : q_C := sR (sI (sI (sI (sI (sI (sI (sI (sI (sI (sI M h 0 0) h 1 0) h 2 0) h 3 0) h 4 0) h 5 0) h 6 0) h 7 0) h 8 0) h 9 (-1)) h 10 none
theorem fz_wy {n h : Nat} {M : q_C} (hf : fz n M) (hh : h < n) : fz n (wyI M h) := fz_R (fz_I (fz_I (fz_I (fz_I (fz_I (fz_I (fz_I (fz_I (fz_I (fz_I hf hh _ _) hh _ _) hh _ _) hh _ _) hh _ _) hh _ _) hh _ _) hh _ _) hh _ _) hh _ _) hh _ _
theorem e_init5 {Z : q_Z} {M : q_C} {h : Nat} (hk : zK Z h = 15) : fX5_init h Z M = some (wyI M h) := by
  unfold fX5_init
  rw [q_gdk hk]
  simp only [q_nm]
  rw [q_gdc (by decide)]
  rfl
def sgI (M : q_C) (h : Nat) : q_C := sI (sI (sI (sI (sI M h 0 0) h 1 0) h 2 0) h 3 0) h 4 0
theorem fz_sg {n h : Nat} {M : q_C} (hf : fz n M) (hh : h < n) : fz n (sgI M h) := fz_I (fz_I (fz_I (fz_I (fz_I hf hh _ _) hh _ _) hh _ _) hh _ _) hh _ _
theorem sgI_ag (M : q_C) (h : Nat) : q_ag (fun a => a ≠ h) M (sgI M h) := agn_I (agn_I (agn_I (agn_I (agn_I q_ag.rf _ _) _ _) _ _) _ _) _ _
theorem e_init2 {Z : q_Z} {M : q_C} {h : Nat} (hk : zK Z h = 12) : fX2_init h Z M = some (sgI M h) := by
  unfold fX2_init
  rw [q_gdk hk]
  rfl
def sgZ : Nat → q_Z → q_Z
  | 0, Z => Z
  | d + 1, Z => sgZ d (zN Z 12 5)
theorem e_sgL {z : Nat} : ∀ (d i f : Nat) (Z : q_Z) (M : q_C), i + d = 12 → d + 1 < f → zo Z → zS Z = z + 23 + i → zK Z z = 16 → gR M z 2 = some (z + 15) → zK Z (z + 15) = 3 ∧ zL Z (z + 15) = 12 → fz (zS Z) M →
    ∃ M', q_it (fun x : Int32 × q_Z × q_C => fX6_init_L126 z x.1 x.2.1 x.2.2) f (nI i, Z, M) = some (sgZ d Z, M') ∧ (∀ j, i ≤ j → j < 12 → gR M' (z + 15) j = some (z + 23 + j)) ∧ (∀ j, j < i → gR M' (z + 15) j = gR M (z + 15) j) ∧ q_ag (fun a => a ≠ z + 15 ∧ a < z + 23 + i) M M' ∧ fz (z + 35) M' := by
  intro d
  induction d with
  | zero =>
    intro i f Z M h1 h2 h3 h4 h5 h6 h7 h8
    obtain ⟨f, rfl⟩ : ∃ y, f = y + 1 := ⟨f - 1, by omega⟩
    refine ⟨M, q_it_x ?_, fun j q1 q2 => by omega, fun _ _ => rfl, q_ag.rf, h8.up (by omega)⟩
    show fX6_init_L126 z (nI i) Z M = _
    unfold fX6_init_L126
    rw [q_gdk h5, h6, q_bis, q_gdk h7.1, h7.2, if_pos (nI_le (by omega) (by omega))]
    rfl
  | succ d ih =>
    intro i f Z M h1 h2 h3 h4 h5 h6 h7 h8
    obtain ⟨f, rfl⟩ : ∃ y, f = y + 1 := ⟨f - 1, by omega⟩
    have s1 : zS (zN Z 12 5) = z + 23 + (i + 1) := by show zS Z + 1 = _; omega
    have k15 : zK (zN Z 12 5) (z + 15) = 3 ∧ zL (zN Z 12 5) (z + 15) = 12 := by rw [zN_K _ _ _ (by omega), zN_L _ _ _ (by omega)]; exact h7
    have kz : zK (zN Z 12 5) z = 16 := by rw [zN_K _ _ _ (by omega)]; exact h5
    have ks : zK (zN Z 12 5) (zS Z) = 12 := zN_k _ _ _
    generalize hM1 : sR (sgI M (zS Z)) (z + 15) i (some (zS Z)) = M1
    have ag1 : q_ag (fun a => a ≠ zS Z ∧ a ≠ z + 15) M M1 := by rw [← hM1]; exact ((sgI_ag M (zS Z)).wk (fun a q => q.1)).sR (fun q => q.2 rfl) _ _
    have g1 : gR M1 (z + 15) i = some (zS Z) := by rw [← hM1, gR_same]
    have g1o : ∀ j, j ≠ i → gR M1 (z + 15) j = gR M (z + 15) j := fun j hj => by rw [← hM1, gR_sR, if_neg (fun q => hj q.2), (sgI_ag M (zS Z)).R (by omega)]
    have body : fX6_init_L126 z (nI i) Z M = some (.inl (nI (i + 1), zN Z 12 5, M1)) := by
      unfold fX6_init_L126 fX6_init_b143
      rw [q_gdk h5, h6, q_bis, q_gdk h7.1, h7.2, if_neg (nI_ge (by omega) (by omega)), q_bis, q_gdk (h3 _ (Nat.le_refl _)), cN_id h8, e_init2 ks, q_bis, q_gdc (q_okT k15.1 rfl (by omega) (by rw [k15.2]; omega)), q_gdk ks]
      simp only [q_nm]
      rw [nI_clamp (by omega), hM1, nI_1]
    rw [q_it_s (y := (nI (i + 1), zN Z 12 5, M1)) body]
    have f1 : fz (zS (zN Z 12 5)) M1 := by
      rw [← hM1]
      exact fz_R (fz_sg (h8.up (Nat.le_succ _)) (Nat.lt_succ_self _)) (by omega) _ _
    obtain ⟨M', b1, b2, b3, b4, b5⟩ := ih (i + 1) f (zN Z 12 5) M1 (by omega) (by omega) (h3.n 12 5) s1 kz (by rw [ag1.R (by omega)]; exact h6) k15 f1
    refine ⟨M', b1, fun j q1 q2 => ?_, fun j hj => ?_, ?_, b5⟩
    · by_cases q : j = i
      · rw [q, b3 i (by omega), g1, h4]
      · exact b2 j (by omega) q2
    · rw [b3 j (by omega), g1o j (by omega)]
    · exact (ag1.wk (fun a q => by omega)).tr (b4.wk (fun a q => by omega))
