/-! the class stores a way -/
theorem agn_I {w : Nat} {M M' : q_C} (h : q_ag (fun a => a ≠ w) M M') (k : Nat) (v : Int32) : q_ag (fun a => a ≠ w) M (sI M' w k v) := h.sI (fun q => q rfl) k v
theorem agn_J {w : Nat} {M M' : q_C} (h : q_ag (fun a => a ≠ w) M M') (k : Nat) (v : Int64) : q_ag (fun a => a ≠ w) M (sJ M' w k v) := h.sJ (fun q => q rfl) k v
theorem agn_R {w : Nat} {M M' : q_C} (h : q_ag (fun a => a ≠ w) M M') (k : Nat) (v : Option Nat) : q_ag (fun a => a ≠ w) M (sR M' w k v) := h.sR (fun q => q rfl) k v
theorem e_becomeW {Z : q_Z} {M : q_C} {w o : Nat} {i j x y u v t : Int32} (hw : zK Z w = 15) (ho : zK Z o = 15) (hne : o ≠ w) (hs : wst M o i j x y u v t) :
    ∃ M', fX5_become w (some o) Z M = some M' ∧ wst M' w i j x y u v t ∧ gI M' w 7 = 0 ∧ q_ag (fun a => a ≠ w) M M' ∧ M'.2.2 = M.2.2 := by
  obtain ⟨s0, s1, s2, s3, s4, s5, s6⟩ := hs
  unfold fX5_become
  rw [q_bis, q_gdk ho, q_gdk hw]
  simp only [q_nm]
  rw [q_gdc (by decide), s0]
  have a0 : q_ag (fun a => a ≠ w) M M := q_ag.rf
  have r0 : M.2.2 = M.2.2 := rfl
  generalize hM1 : sI M w 0 i = M1
  have a1 : q_ag (fun a => a ≠ w) M M1 := by rw [← hM1]; exact agn_I a0 _ _
  have r1 : M1.2.2 = M.2.2 := by rw [← hM1]; exact r0
  have v1_0 : gI M1 w 0 = i := by rw [← hM1, gI_same]
  rw [a1.I hne 1, s1]
  generalize hM2 : sI M1 w 1 j = M2
  have a2 : q_ag (fun a => a ≠ w) M M2 := by rw [← hM2]; exact agn_I a1 _ _
  have r2 : M2.2.2 = M.2.2 := by rw [← hM2]; exact r1
  have v2_0 : gI M2 w 0 = i := by rw [← hM2, gI_k _ _ _ _ (by decide)]; exact v1_0
  have v2_1 : gI M2 w 1 = j := by rw [← hM2, gI_same]
  rw [a2.I hne 2, s2]
  generalize hM3 : sI M2 w 2 x = M3
  have a3 : q_ag (fun a => a ≠ w) M M3 := by rw [← hM3]; exact agn_I a2 _ _
  have r3 : M3.2.2 = M.2.2 := by rw [← hM3]; exact r2
  have v3_0 : gI M3 w 0 = i := by rw [← hM3, gI_k _ _ _ _ (by decide)]; exact v2_0
  have v3_1 : gI M3 w 1 = j := by rw [← hM3, gI_k _ _ _ _ (by decide)]; exact v2_1
  have v3_2 : gI M3 w 2 = x := by rw [← hM3, gI_same]
  rw [a3.I hne 3, s3]
  generalize hM4 : sI M3 w 3 y = M4
  have a4 : q_ag (fun a => a ≠ w) M M4 := by rw [← hM4]; exact agn_I a3 _ _
  have r4 : M4.2.2 = M.2.2 := by rw [← hM4]; exact r3
  have v4_0 : gI M4 w 0 = i := by rw [← hM4, gI_k _ _ _ _ (by decide)]; exact v3_0
  have v4_1 : gI M4 w 1 = j := by rw [← hM4, gI_k _ _ _ _ (by decide)]; exact v3_1
  have v4_2 : gI M4 w 2 = x := by rw [← hM4, gI_k _ _ _ _ (by decide)]; exact v3_2
  have v4_3 : gI M4 w 3 = y := by rw [← hM4, gI_same]
  rw [a4.I hne 4, s4]
  generalize hM5 : sI M4 w 4 u = M5
  have a5 : q_ag (fun a => a ≠ w) M M5 := by rw [← hM5]; exact agn_I a4 _ _
  have r5 : M5.2.2 = M.2.2 := by rw [← hM5]; exact r4
  have v5_0 : gI M5 w 0 = i := by rw [← hM5, gI_k _ _ _ _ (by decide)]; exact v4_0
  have v5_1 : gI M5 w 1 = j := by rw [← hM5, gI_k _ _ _ _ (by decide)]; exact v4_1
  have v5_2 : gI M5 w 2 = x := by rw [← hM5, gI_k _ _ _ _ (by decide)]; exact v4_2
  have v5_3 : gI M5 w 3 = y := by rw [← hM5, gI_k _ _ _ _ (by decide)]; exact v4_3
  have v5_4 : gI M5 w 4 = u := by rw [← hM5, gI_same]
  rw [a5.I hne 5, s5]
  generalize hM6 : sI M5 w 5 v = M6
  have a6 : q_ag (fun a => a ≠ w) M M6 := by rw [← hM6]; exact agn_I a5 _ _
  have r6 : M6.2.2 = M.2.2 := by rw [← hM6]; exact r5
  have v6_0 : gI M6 w 0 = i := by rw [← hM6, gI_k _ _ _ _ (by decide)]; exact v5_0
  have v6_1 : gI M6 w 1 = j := by rw [← hM6, gI_k _ _ _ _ (by decide)]; exact v5_1
  have v6_2 : gI M6 w 2 = x := by rw [← hM6, gI_k _ _ _ _ (by decide)]; exact v5_2
  have v6_3 : gI M6 w 3 = y := by rw [← hM6, gI_k _ _ _ _ (by decide)]; exact v5_3
  have v6_4 : gI M6 w 4 = u := by rw [← hM6, gI_k _ _ _ _ (by decide)]; exact v5_4
  have v6_5 : gI M6 w 5 = v := by rw [← hM6, gI_same]
  rw [a6.I hne 6, s6]
  generalize hM7 : sI M6 w 6 t = M7
  have a7 : q_ag (fun a => a ≠ w) M M7 := by rw [← hM7]; exact agn_I a6 _ _
  have r7 : M7.2.2 = M.2.2 := by rw [← hM7]; exact r6
  have v7_0 : gI M7 w 0 = i := by rw [← hM7, gI_k _ _ _ _ (by decide)]; exact v6_0
  have v7_1 : gI M7 w 1 = j := by rw [← hM7, gI_k _ _ _ _ (by decide)]; exact v6_1
  have v7_2 : gI M7 w 2 = x := by rw [← hM7, gI_k _ _ _ _ (by decide)]; exact v6_2
  have v7_3 : gI M7 w 3 = y := by rw [← hM7, gI_k _ _ _ _ (by decide)]; exact v6_3
  have v7_4 : gI M7 w 4 = u := by rw [← hM7, gI_k _ _ _ _ (by decide)]; exact v6_4
  have v7_5 : gI M7 w 5 = v := by rw [← hM7, gI_k _ _ _ _ (by decide)]; exact v6_5
  have v7_6 : gI M7 w 6 = t := by rw [← hM7, gI_same]
  generalize hM8 : sI M7 w 7 (0 : Int32) = M8
  have a8 : q_ag (fun a => a ≠ w) M M8 := by rw [← hM8]; exact agn_I a7 _ _
  have r8 : M8.2.2 = M.2.2 := by rw [← hM8]; exact r7
  have v8_0 : gI M8 w 0 = i := by rw [← hM8, gI_k _ _ _ _ (by decide)]; exact v7_0
  have v8_1 : gI M8 w 1 = j := by rw [← hM8, gI_k _ _ _ _ (by decide)]; exact v7_1
  have v8_2 : gI M8 w 2 = x := by rw [← hM8, gI_k _ _ _ _ (by decide)]; exact v7_2
  have v8_3 : gI M8 w 3 = y := by rw [← hM8, gI_k _ _ _ _ (by decide)]; exact v7_3
  have v8_4 : gI M8 w 4 = u := by rw [← hM8, gI_k _ _ _ _ (by decide)]; exact v7_4
  have v8_5 : gI M8 w 5 = v := by rw [← hM8, gI_k _ _ _ _ (by decide)]; exact v7_5
  have v8_6 : gI M8 w 6 = t := by rw [← hM8, gI_k _ _ _ _ (by decide)]; exact v7_6
  have v8_7 : gI M8 w 7 = (0 : Int32) := by rw [← hM8, gI_same]
  exact ⟨M8, rfl, ⟨v8_0, v8_1, v8_2, v8_3, v8_4, v8_5, v8_6⟩, v8_7, a8, r8⟩
theorem e_initW {Z : q_Z} {M : q_C} {w : Nat} (hw : zK Z w = 15) : ∃ M', fX5_init w Z M = some M' ∧ gR M' w 10 = none ∧ q_ag (fun a => a ≠ w) M M' := by
  unfold fX5_init
  rw [q_gdk hw]
  simp only [q_nm]
  rw [q_gdc (by decide)]
  have a0 : q_ag (fun a => a ≠ w) M M := q_ag.rf
  generalize hM1 : sI M w 0 (0 : Int32) = M1
  have a1 : q_ag (fun a => a ≠ w) M M1 := by rw [← hM1]; exact agn_I a0 _ _
  generalize hM2 : sI M1 w 1 (0 : Int32) = M2
  have a2 : q_ag (fun a => a ≠ w) M M2 := by rw [← hM2]; exact agn_I a1 _ _
  generalize hM3 : sI M2 w 2 (0 : Int32) = M3
  have a3 : q_ag (fun a => a ≠ w) M M3 := by rw [← hM3]; exact agn_I a2 _ _
  generalize hM4 : sI M3 w 3 (0 : Int32) = M4
  have a4 : q_ag (fun a => a ≠ w) M M4 := by rw [← hM4]; exact agn_I a3 _ _
  generalize hM5 : sI M4 w 4 (0 : Int32) = M5
  have a5 : q_ag (fun a => a ≠ w) M M5 := by rw [← hM5]; exact agn_I a4 _ _
  generalize hM6 : sI M5 w 5 (0 : Int32) = M6
  have a6 : q_ag (fun a => a ≠ w) M M6 := by rw [← hM6]; exact agn_I a5 _ _
  generalize hM7 : sI M6 w 6 (0 : Int32) = M7
  have a7 : q_ag (fun a => a ≠ w) M M7 := by rw [← hM7]; exact agn_I a6 _ _
  generalize hM8 : sI M7 w 7 (0 : Int32) = M8
  have a8 : q_ag (fun a => a ≠ w) M M8 := by rw [← hM8]; exact agn_I a7 _ _
  generalize hM9 : sI M8 w 8 (0 : Int32) = M9
  have a9 : q_ag (fun a => a ≠ w) M M9 := by rw [← hM9]; exact agn_I a8 _ _
  generalize hM10 : sI M9 w 9 (-1 : Int32) = M10
  have a10 : q_ag (fun a => a ≠ w) M M10 := by rw [← hM10]; exact agn_I a9 _ _
  exact ⟨_, rfl, gR_same _ _ _ _, agn_R a10 _ _⟩
theorem cN_ag (M : q_C) (w : Nat) : q_ag (fun a => a ≠ w) M (cN M w) := fun a ha => ⟨funext fun j => if_neg ha, funext fun j => if_neg ha, funext fun j => if_neg ha⟩
theorem zN_K (Z : q_Z) (kd n : Nat) {a : Nat} (h : a ≠ zS Z) : zK (zN Z kd n) a = zK Z a := if_neg h
theorem zN_L (Z : q_Z) (kd n : Nat) {a : Nat} (h : a ≠ zS Z) : zL (zN Z kd n) a = zL Z a := if_neg h
theorem zN_k (Z : q_Z) (kd n : Nat) : zK (zN Z kd n) (zS Z) = kd := if_pos rfl
theorem zN_l (Z : q_Z) (kd n : Nat) : zL (zN Z kd n) (zS Z) = n := if_pos rfl
theorem zR.ge {Z : q_Z} {M : q_C} {z : Nat} (h : zR Z M z) : z + 53 ≤ zS Z := by have := h.2.2.2.1; omega
theorem zR.nx {Z : q_Z} {M : q_C} {z : Nat} (h : zR Z M z) (kd n : Nat) : zx z Z (zN Z kd n) := fun a ha => ⟨zN_K _ _ _ (by have := h.ge; omega), zN_L _ _ _ (by have := h.ge; omega)⟩
theorem zR.ne {Z : q_Z} {M : q_C} {z : Nat} (h : zR Z M z) {a : Nat} (ha : zK Z a ≠ 0) : a ≠ zS Z := fun e => ha (h.2.2.2.2.2 a (by omega))
