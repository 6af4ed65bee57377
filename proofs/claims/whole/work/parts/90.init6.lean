def m6A (z : Nat) : q_C := sR (skI q_M0 (z + 1) (z + 2)) z 0 (some (z + 1))
def m6B (z : Nat) : q_C := sR (skI (m6A z) (z + 8) (z + 9)) z 1 (some (z + 8))
def m6C (z : Nat) : q_C := sI (sI (sI (sI (sI (sI (sR (m6B z) z 2 (some (z + 15))) z 3 0) z 4 (-1)) z 5 (-1)) z 6 500) z 7 500) z 8 6
def m6D (z : Nat) : q_C := sI (sI (sR (m6C z) z 9 (some (z + 16))) z 10 (-1)) z 11 (-1000)
def m6E (z : Nat) : q_C := sR (cmI (m6D z) (z + 17)) z 12 (some (z + 17))
def m6F (z : Nat) : q_C := sR (wyI (m6E z) (z + 18)) z 13 (some (z + 18))
def m6G (z : Nat) : q_C := sR (ptI (m6F z) (z + 19) (z + 20)) z 14 (some (z + 19))
theorem fz_0 (s : Nat) : fz s q_M0 := fun _ _ => ⟨rfl, rfl, rfl⟩
theorem fz_A (z : Nat) : fz (z + 8) (m6A z) := fz_R (fz_sk (fz_0 _) (by omega) (by omega)) (by omega) _ _
theorem fz_B (z : Nat) : fz (z + 15) (m6B z) := fz_R (fz_sk ((fz_A z).up (by omega)) (by omega) (by omega)) (by omega) _ _
theorem fz_C (z : Nat) : fz (z + 16) (m6C z) := fz_I (fz_I (fz_I (fz_I (fz_I (fz_I (fz_R ((fz_B z).up (by omega)) (by omega) _ _) (by omega) _ _) (by omega) _ _) (by omega) _ _) (by omega) _ _) (by omega) _ _) (by omega) _ _
theorem fz_D (z : Nat) : fz (z + 17) (m6D z) := fz_I (fz_I (fz_R ((fz_C z).up (by omega)) (by omega) _ _) (by omega) _ _) (by omega) _ _
theorem fz_E (z : Nat) : fz (z + 18) (m6E z) := fz_R (fz_cm ((fz_D z).up (by omega)) (by omega)) (by omega) _ _
theorem fz_F (z : Nat) : fz (z + 19) (m6F z) := fz_R (fz_wy ((fz_E z).up (by omega)) (by omega)) (by omega) _ _
theorem fz_G (z : Nat) : fz (z + 23) (m6G z) := fz_R (fz_pt ((fz_F z).up (by omega)) (by omega)) (by omega) _ _
def L2 : List (Nat × Nat) := [(16, 15), (13, 4)]
def L8 : List (Nat × Nat) := [(16, 15), (13, 4), (14, 3), (1, 40), (1, 40), (14, 3), (1, 40), (1, 40)]
def L15 : List (Nat × Nat) := [(16, 15), (13, 4), (14, 3), (1, 40), (1, 40), (14, 3), (1, 40), (1, 40), (13, 4), (14, 3), (1, 40), (1, 40), (14, 3), (1, 40), (1, 40)]
def L20 : List (Nat × Nat) := [(16, 15), (13, 4), (14, 3), (1, 40), (1, 40), (14, 3), (1, 40), (1, 40), (13, 4), (14, 3), (1, 40), (1, 40), (14, 3), (1, 40), (1, 40), (3, 12), (4, 100), (10, 6), (15, 11), (11, 4)]
def L23 : List (Nat × Nat) := [(16, 15), (13, 4), (14, 3), (1, 40), (1, 40), (14, 3), (1, 40), (1, 40), (13, 4), (14, 3), (1, 40), (1, 40), (14, 3), (1, 40), (1, 40), (3, 12), (4, 100), (10, 6), (15, 11), (11, 4), (1, 100), (2, 100), (2, 100)]
def L35 : List (Nat × Nat) := [(16, 15), (13, 4), (14, 3), (1, 40), (1, 40), (14, 3), (1, 40), (1, 40), (13, 4), (14, 3), (1, 40), (1, 40), (14, 3), (1, 40), (1, 40), (3, 12), (4, 100), (10, 6), (15, 11), (11, 4), (1, 100), (2, 100), (2, 100), (12, 5), (12, 5), (12, 5), (12, 5), (12, 5), (12, 5), (12, 5), (12, 5), (12, 5), (12, 5), (12, 5), (12, 5)]
theorem zo_0 (z : Nat) : zo (q_Z0 z) := fun _ _ => rfl
theorem m6_z2 (z : Nat) : gR (m6G z) z 2 = some (z + 15) := by
  simp [m6G, m6F, m6E, m6D, m6C, ptI, cmI, wyI, gR_sR, gR_sI, gR_sJ]
theorem e_init6 (z : Nat) : ∃ M', fX6_init z (zF (q_Z0 z) [(16, 15)]) q_M0 = some (zF (q_Z0 z) L35, M') ∧ (∀ j, j < 12 → gR M' (z + 15) j = some (z + 23 + j)) ∧ q_ag (fun a => a ≠ z + 15 ∧ a < z + 23) (m6G z) M' ∧ fz (z + 35) M' := by
  have zo' : ∀ l, zo (zF (q_Z0 z) l) := fun l => zF_o l _ (zo_0 z)
  have kz : ∀ l : List (Nat × Nat), l[0]? = some (16, 15) → zK (zF (q_Z0 z) l) z = 16 := fun l hl => (zF_at l (q_Z0 z) 0 (16, 15) hl).1
  obtain ⟨M', b1, b2, b3, b4, b5⟩ := e_sgL (z := z) 12 0 q_FU (zF (q_Z0 z) L23) (m6G z) (by omega) (by unfold q_FU; omega) (zo' _) rfl (kz L23 rfl) (m6_z2 z) (zF_at L23 (q_Z0 z) 15 (3, 12) rfl) (fz_G z)
  rw [nI_0, show sgZ 12 (zF (q_Z0 z) L23) = zF (q_Z0 z) L35 from rfl] at b1
  refine ⟨M', ?_, fun j hj => b2 j (by omega) hj, b4.wk (fun a q => ⟨q.1, by omega⟩), b5⟩
  have s121 : fX6_init_b121 z (z + 19) z (zF (q_Z0 z) L23) (ptI (m6F z) (z + 19) (z + 20)) = some (zF (q_Z0 z) L35, M') := by
    unfold fX6_init_b121 fX6_init_b154
    rw [q_gdk (kz L23 rfl)]
    simp only [q_nm]
    rw [show sR (ptI (m6F z) (z + 19) (z + 20)) z 14 (some (z + 19)) = m6G z from rfl, b1, q_bis]
  have s117 : fX6_init_b117 z (z + 19) z (zF (q_Z0 z) L20) (m6F z) = some (zF (q_Z0 z) L35, M') := by
    have e := e_init1 (Z := zF (q_Z0 z) L20) (M := m6F z) (h := z + 19) (zo' _) (zF_at L20 (q_Z0 z) 19 (11, 4) rfl).1 (show z + 19 < z + 20 by omega) ((fz_F z).up (show z + 19 ≤ z + 20 by omega))
    unfold fX6_init_b117
    rw [e, q_b2s]
    exact s121
  have s106 : fX6_init_b106 z (z + 18) z (zF (q_Z0 z) (L15 ++ [(3, 12), (4, 100), (10, 6), (15, 11)])) (m6E z) = some (zF (q_Z0 z) L35, M') := by
    have e := e_init5 (Z := zF (q_Z0 z) (L15 ++ [(3, 12), (4, 100), (10, 6), (15, 11)])) (M := m6E z) (h := z + 18) (zF_at (L15 ++ [(3, 12), (4, 100), (10, 6), (15, 11)]) (q_Z0 z) 18 (15, 11) rfl).1
    unfold fX6_init_b106
    rw [e, q_bis, q_gdk (kz (L15 ++ [(3, 12), (4, 100), (10, 6), (15, 11)]) rfl)]
    simp only [q_nm]
    rw [q_gdk (zo' _ _ (Nat.le_refl _)), show zS (zF (q_Z0 z) (L15 ++ [(3, 12), (4, 100), (10, 6), (15, 11)])) = z + 19 from rfl, show sR (wyI (m6E z) (z + 18)) z 13 (some (z + 18)) = m6F z from rfl, cN_id (fz_F z)]
    exact s117
  have s95 : fX6_init_b95 z (z + 17) z (zF (q_Z0 z) (L15 ++ [(3, 12), (4, 100), (10, 6)])) (m6D z) = some (zF (q_Z0 z) L35, M') := by
    have e := e_init0 (Z := zF (q_Z0 z) (L15 ++ [(3, 12), (4, 100), (10, 6)])) (M := m6D z) (h := z + 17) (zF_at (L15 ++ [(3, 12), (4, 100), (10, 6)]) (q_Z0 z) 17 (10, 6) rfl).1
    unfold fX6_init_b95
    rw [e, q_bis, q_gdk (kz (L15 ++ [(3, 12), (4, 100), (10, 6)]) rfl)]
    simp only [q_nm]
    rw [q_gdk (zo' _ _ (Nat.le_refl _)), show zS (zF (q_Z0 z) (L15 ++ [(3, 12), (4, 100), (10, 6)])) = z + 18 from rfl, show sR (cmI (m6D z) (z + 17)) z 12 (some (z + 17)) = m6E z from rfl, cN_id (fz_E z)]
    exact s106
  have s76 : fX6_init_b76 z (z + 16) z (zF (q_Z0 z) (L15 ++ [(3, 12), (4, 100)])) (m6C z) = some (zF (q_Z0 z) L35, M') := by
    unfold fX6_init_b76
    rw [q_gdk (kz (L15 ++ [(3, 12), (4, 100)]) rfl)]
    simp only [q_nm]
    rw [q_gdk (kz (L15 ++ [(3, 12), (4, 100)]) rfl), q_gdk (zo' _ _ (Nat.le_refl _)), show zS (zF (q_Z0 z) (L15 ++ [(3, 12), (4, 100)])) = z + 17 from rfl, show sI (sI (sR (m6C z) z 9 (some (z + 16))) z 10 (-1)) z 11 (-1000) = m6D z from rfl, cN_id (fz_D z)]
    exact s95
  have s32 : fX6_init_b32 z (z + 15) z (zF (q_Z0 z) (L15 ++ [(3, 12)])) (m6B z) = some (zF (q_Z0 z) L35, M') := by
    unfold fX6_init_b32
    rw [q_gdk (kz (L15 ++ [(3, 12)]) rfl)]
    simp only [q_nm]
    rw [q_gdk (kz (L15 ++ [(3, 12)]) rfl), q_gdk (zo' _ _ (Nat.le_refl _)), show zS (zF (q_Z0 z) (L15 ++ [(3, 12)])) = z + 16 from rfl, show sI (sI (sI (sI (sI (sI (sR (m6B z) z 2 (some (z + 15))) z 3 0) z 4 (-1)) z 5 (-1)) z 6 500) z 7 500) z 8 6 = m6C z from rfl, cN_id (fz_C z)]
    exact s76
  have s23 : fX6_init_b23 z (z + 8) z (zF (q_Z0 z) L15) (skI (m6A z) (z + 8) (z + 9)) = some (zF (q_Z0 z) L35, M') := by
    unfold fX6_init_b23
    rw [q_gdk (kz L15 rfl)]
    simp only [q_nm]
    rw [q_gdk (zo' _ _ (Nat.le_refl _)), show zS (zF (q_Z0 z) L15) = z + 15 from rfl, show sR (skI (m6A z) (z + 8) (z + 9)) z 1 (some (z + 8)) = m6B z from rfl, cN_id (fz_B z)]
    exact s32
  have s19 : fX6_init_b19 z (z + 8) z (zF (q_Z0 z) (L8 ++ [(13, 4)])) (m6A z) = some (zF (q_Z0 z) L35, M') := by
    have e9 : zS (zF (q_Z0 z) (L8 ++ [(13, 4)])) = z + 9 := rfl
    have e := e_init3 (Z := zF (q_Z0 z) (L8 ++ [(13, 4)])) (M := m6A z) (h := z + 8) (zo' _) (zF_at (L8 ++ [(13, 4)]) (q_Z0 z) 8 (13, 4) rfl).1 (by rw [e9]; omega) ((fz_A z).up (by rw [e9]; omega))
    unfold fX6_init_b19
    rw [e, q_b2s]
    exact s23
  have s12 : fX6_init_b12 z (z + 1) z (zF (q_Z0 z) L8) (skI q_M0 (z + 1) (z + 2)) = some (zF (q_Z0 z) L35, M') := by
    unfold fX6_init_b12
    rw [q_gdk (kz L8 rfl)]
    simp only [q_nm]
    rw [q_gdk (zo' _ _ (Nat.le_refl _)), show zS (zF (q_Z0 z) L8) = z + 8 from rfl, show sR (skI q_M0 (z + 1) (z + 2)) z 0 (some (z + 1)) = m6A z from rfl, cN_id (fz_A z)]
    exact s19
  have s8 : fX6_init_b8 z (z + 1) z (zF (q_Z0 z) L2) q_M0 = some (zF (q_Z0 z) L35, M') := by
    have e := e_init3 (Z := zF (q_Z0 z) L2) (M := q_M0) (h := z + 1) (zo' _) (zF_at L2 (q_Z0 z) 1 (13, 4) rfl).1 (show z + 1 < z + 2 by omega) (fz_0 _)
    unfold fX6_init_b8
    rw [e, q_b2s]
    exact s12
  unfold fX6_init
  rw [q_gdk (zo' _ _ (Nat.le_refl _)), cN_id (fz_0 _)]
  exact s8
/-- what the constructor has written -/
theorem m6_R (z : Nat) : (gR (m6G z) z 0 = some (z + 1) ∧ gR (m6G z) z 1 = some (z + 8) ∧ gR (m6G z) z 2 = some (z + 15) ∧ gR (m6G z) z 9 = some (z + 16) ∧ gR (m6G z) z 12 = some (z + 17) ∧ gR (m6G z) z 13 = some (z + 18) ∧ gR (m6G z) z 14 = some (z + 19)) ∧ (gR (m6G z) (z + 1) 0 = some (z + 2) ∧ gR (m6G z) (z + 1) 1 = some (z + 5) ∧ gR (m6G z) (z + 8) 0 = some (z + 9) ∧ gR (m6G z) (z + 8) 1 = some (z + 12)) ∧ (gR (m6G z) (z + 2) 0 = some (z + 3) ∧ gR (m6G z) (z + 2) 1 = some (z + 4) ∧ gR (m6G z) (z + 5) 0 = some (z + 6) ∧ gR (m6G z) (z + 5) 1 = some (z + 7)) ∧ (gR (m6G z) (z + 9) 0 = some (z + 10) ∧ gR (m6G z) (z + 9) 1 = some (z + 11) ∧ gR (m6G z) (z + 12) 0 = some (z + 13) ∧ gR (m6G z) (z + 12) 1 = some (z + 14)) ∧ (gR (m6G z) (z + 19) 0 = some (z + 20) ∧ gR (m6G z) (z + 19) 1 = some (z + 21) ∧ gR (m6G z) (z + 19) 2 = some (z + 22)) := by
  refine ⟨⟨?_, ?_, ?_, ?_, ?_, ?_, ?_⟩, ⟨?_, ?_, ?_, ?_⟩, ⟨?_, ?_, ?_, ?_⟩, ⟨?_, ?_, ?_, ?_⟩, ⟨?_, ?_, ?_⟩⟩ <;> simp [m6G, m6F, m6E, m6D, m6C, m6B, m6A, skI, tbI, ptI, cmI, wyI, gR_sR, gR_sI, gR_sJ] <;> omega
theorem m6_k (z : Nat) (k : Nat) : gR (m6G z) (z + 16) k = none := by
  simp [m6G, m6F, m6E, m6D, m6C, m6B, m6A, skI, tbI, ptI, cmI, wyI, gR_sR, gR_sI, gR_sJ]
  rfl
theorem m6_I (z : Nat) : (gI (m6G z) z 3 = 0 ∧ gI (m6G z) z 4 = -1 ∧ gI (m6G z) z 5 = -1 ∧ gI (m6G z) z 6 = 500 ∧ gI (m6G z) z 7 = 500 ∧ gI (m6G z) z 8 = 6 ∧ gI (m6G z) z 10 = -1 ∧ gI (m6G z) z 11 = -1000) ∧ (gI (m6G z) (z + 2) 2 = 0 ∧ gI (m6G z) (z + 5) 2 = 0 ∧ gI (m6G z) (z + 9) 2 = 0 ∧ gI (m6G z) (z + 12) 2 = 0) ∧ (gJ (m6G z) (z + 1) 2 = 10000000 ∧ gJ (m6G z) (z + 1) 3 = 0 ∧ gJ (m6G z) (z + 8) 2 = 10000000 ∧ gJ (m6G z) (z + 8) 3 = 0) := by
  refine ⟨⟨?_, ?_, ?_, ?_, ?_, ?_, ?_, ?_⟩, ⟨?_, ?_, ?_, ?_⟩, ⟨?_, ?_, ?_, ?_⟩⟩ <;> simp [m6G, m6F, m6E, m6D, m6C, m6B, m6A, skI, tbI, ptI, cmI, wyI, gI_sR, gI_sI, gI_sJ, gJ_sR, gJ_sI, gJ_sJ]
