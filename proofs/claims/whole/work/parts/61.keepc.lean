/-! the class keeps -/
theorem cP_v {M : q_C} {a0 a j : Nat} (hj : j < 40) : gI (cP M a0 a 0 0 40) a j = gI M a0 j := by
  show (if a = a then va_cpy (M.1 a0) (M.1 a) 0 0 40 j else M.1 a j) = M.1 a0 j
  rw [if_pos rfl]
  show (if 0 ≤ j ∧ j < 0 + 40 then M.1 a0 (0 + (j - 0)) else M.1 a j) = M.1 a0 j
  rw [if_pos ⟨Nat.zero_le _, by omega⟩, show 0 + (j - 0) = j by omega]
theorem cP_ag {M : q_C} {a0 a s d n : Nat} : q_ag (fun x => x ≠ a) M (cP M a0 a s d n) := fun x hx => ⟨funext fun j => if_neg hx, rfl, rfl⟩
theorem cP_g {Z : q_Z} {a0 a : Nat} (h1 : zK Z a0 = 1) (h2 : zK Z a = 1) (h3 : zL Z a0 = 40) (h4 : zL Z a = 40) : q_cp Z a0 a (0 : Int32) (0 : Int32) (40 : Int32) = true := by
  unfold q_cp
  rw [h1, h2, h3, h4]
  decide
theorem e_tbecome {Z : q_Z} {M : q_C} {h a : Nat} {T : q_TB} (zh : zT Z M h) (za : zT Z M a) (hd : h + 2 < a ∨ a + 2 < h) (hT : B_tb M a T) :
    ∃ M', fX4_become h (some a) Z M = some M' ∧ B_tb M' h T ∧ q_ag (fun x => ¬ (h ≤ x ∧ x ≤ h + 2)) M M' ∧ M'.2.2 = M.2.2 := by
  have c0 : (0 : Int32).toNatClampNeg = 0 := by decide
  have c40 : (40 : Int32).toNatClampNeg = 40 := by decide
  unfold fX4_become
  rw [q_bis, q_gdk za.1, za.2.1, q_bis, q_gdk zh.1, zh.2.1, q_bis, q_gdc (cP_g za.2.2.2.1 zh.2.2.2.1 za.2.2.2.2.1 zh.2.2.2.2.1), c0, c40]
  simp only [q_nm]
  generalize hM1 : cP M (a + 1) (h + 1) 0 0 40 = M1
  have a1 : q_ag (fun x => x ≠ h + 1) M M1 := by rw [← hM1]; exact cP_ag
  have r1 : M1.2.2 = M.2.2 := by rw [← hM1]; rfl
  have v1 : ∀ j, j < 40 → gI M1 (h + 1) j = gI M (a + 1) j := fun j hj => by rw [← hM1]; exact cP_v hj
  rw [a1.R (by omega), za.2.2.1, q_bis, a1.R (by omega), zh.2.2.1, q_bis, q_gdc (cP_g za.2.2.2.2.2.1 zh.2.2.2.2.2.1 za.2.2.2.2.2.2 zh.2.2.2.2.2.2)]
  generalize hM2 : cP M1 (a + 2) (h + 2) 0 0 40 = M2
  have a2 : q_ag (fun x => x ≠ h + 2) M1 M2 := by rw [← hM2]; exact cP_ag
  have r2 : M2.2.2 = M.2.2 := by rw [← hM2]; exact r1
  have v2 : ∀ j, j < 40 → gI M2 (h + 2) j = gI M (a + 2) j := fun j hj => by rw [← hM2, cP_v hj, a1.I (by omega)]
  have a12 : q_ag (fun x => ¬ (h ≤ x ∧ x ≤ h + 2)) M M2 := (a1.wk (fun x hx => by omega)).tr (a2.wk (fun x hx => by omega))
  refine ⟨_, rfl, ⟨hT.1, ?_, fun i hi => ?_⟩, a12.sI (fun q => q ⟨by omega, by omega⟩) _ _, r2⟩
  · rw [gI_same, a12.I (by omega)]; exact hT.2.1
  · have h40 := hT.1
    rw [gI_a _ _ _ _ (by omega), gI_a _ _ _ _ (by omega), a2.I (by omega), v1 i (by omega), v2 i (by omega)]
    exact hT.2.2 i hi
theorem e_kbecome {Z : q_Z} {M : q_C} {h o : Nat} {S : q_SK} (zh : zY Z M h) (zo : zY Z M o) (hd : h + 6 < o ∨ o + 6 < h) (hS : B_sk M o S) :
    ∃ M', fX3_become h (some o) Z M = some M' ∧ B_sk M' h S ∧ q_ag (fun x => ¬ (h ≤ x ∧ x ≤ h + 6)) M M' ∧ M'.2.2 = M.2.2 := by
  obtain ⟨M1, a1, a2, a3, a4⟩ := e_tbecome zh.2.2.2.1 zo.2.2.2.1 (by omega) hS.1
  have zh1 := zh.mv a4
  have zo1 := zo.mv a4
  have hS2 : B_tb M1 (o + 4) S.2.1 := ⟨hS.2.1.1, by rw [a3.I (by omega)]; exact hS.2.1.2.1, fun i hi => by rw [a3.I (by omega), a3.I (by omega)]; exact hS.2.1.2.2 i hi⟩
  obtain ⟨M2, b1, b2, b3, b4⟩ := e_tbecome zh1.2.2.2.2 zo1.2.2.2.2 (by omega) hS2
  have a12 : q_ag (fun x => ¬ (h ≤ x ∧ x ≤ h + 6)) M M2 := (a3.wk (fun x hx => by omega)).tr (b3.wk (fun x hx => by omega))
  unfold fX3_become
  rw [q_gdk zh.1, zh.2.1, q_bis, q_bis, q_gdk zo.1, zo.2.1, q_bis, q_gdk zh.2.2.2.1.1, a1, q_bis, zh1.2.2.1, q_bis, zo1.2.2.1, q_bis, q_gdk zh.2.2.2.2.1, b1, q_bis]
  simp only [q_nm]
  rw [a12.J (by omega)]
  generalize hM3 : sJ M2 h 2 (gJ M o 2) = M3
  have a13 : q_ag (fun x => ¬ (h ≤ x ∧ x ≤ h + 6)) M M3 := by rw [← hM3]; exact a12.sJ (fun q => q ⟨by omega, by omega⟩) _ _
  have r3 : M3.2.2 = M.2.2 := by rw [← hM3]; exact b4.trans a4
  have v3 : gJ M3 h 2 = gJ M o 2 := by rw [← hM3, gJ_same]
  have i3 : ∀ x k, gI M3 x k = gI M2 x k := fun x k => by rw [← hM3, gI_sJ]
  rw [a13.J (by omega)]
  refine ⟨_, rfl, ⟨⟨hS.1.1, ?_, fun i hi => ?_⟩, ⟨hS.2.1.1, ?_, fun i hi => ?_⟩, ?_, ?_⟩, a13.sJ (fun q => q ⟨by omega, by omega⟩) _ _, r3⟩
  · rw [gI_sJ, i3, b3.I (by omega)]; exact a2.2.1
  · rw [gI_sJ, gI_sJ, i3, i3, b3.I (by omega), b3.I (by omega)]; exact a2.2.2 i hi
  · rw [gI_sJ, i3]; exact b2.2.1
  · rw [gI_sJ, gI_sJ, i3, i3]; exact b2.2.2 i hi
  · rw [gJ_k _ _ _ _ (by decide), v3]; exact hS.2.2.1
  · rw [gJ_same]; exact hS.2.2.2
