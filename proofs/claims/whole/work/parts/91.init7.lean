def K7_1 : List (Nat × Nat) := [(1, 2)]
def K7_2 : List (Nat × Nat) := [(1, 2), (1, 160)]
def K7_3 : List (Nat × Nat) := [(1, 2), (1, 160), (1, 2)]
def K7_4 : List (Nat × Nat) := [(1, 2), (1, 160), (1, 2), (1, 160)]
def K7_5 : List (Nat × Nat) := [(1, 2), (1, 160), (1, 2), (1, 160), (1, 2)]
def K7_6 : List (Nat × Nat) := [(1, 2), (1, 160), (1, 2), (1, 160), (1, 2), (1, 2)]
def K7_7 : List (Nat × Nat) := [(1, 2), (1, 160), (1, 2), (1, 160), (1, 2), (1, 2), (1, 60)]
def K7_8 : List (Nat × Nat) := [(1, 2), (1, 160), (1, 2), (1, 160), (1, 2), (1, 2), (1, 60), (1, 200)]
def K7_9 : List (Nat × Nat) := [(1, 2), (1, 160), (1, 2), (1, 160), (1, 2), (1, 2), (1, 60), (1, 200), (1, 200)]
def K7_10 : List (Nat × Nat) := [(1, 2), (1, 160), (1, 2), (1, 160), (1, 2), (1, 2), (1, 60), (1, 200), (1, 200), (2, 60100)]
def K7_11 : List (Nat × Nat) := [(1, 2), (1, 160), (1, 2), (1, 160), (1, 2), (1, 2), (1, 60), (1, 200), (1, 200), (2, 60100), (2, 60100)]
def K7_12 : List (Nat × Nat) := [(1, 2), (1, 160), (1, 2), (1, 160), (1, 2), (1, 2), (1, 60), (1, 200), (1, 200), (2, 60100), (2, 60100), (2, 60100)]
def K7_13 : List (Nat × Nat) := [(1, 2), (1, 160), (1, 2), (1, 160), (1, 2), (1, 2), (1, 60), (1, 200), (1, 200), (2, 60100), (2, 60100), (2, 60100), (2, 60100)]
def K7_14 : List (Nat × Nat) := [(1, 2), (1, 160), (1, 2), (1, 160), (1, 2), (1, 2), (1, 60), (1, 200), (1, 200), (2, 60100), (2, 60100), (2, 60100), (2, 60100), (2, 601)]
def K7_15 : List (Nat × Nat) := [(1, 2), (1, 160), (1, 2), (1, 160), (1, 2), (1, 2), (1, 60), (1, 200), (1, 200), (2, 60100), (2, 60100), (2, 60100), (2, 60100), (2, 601), (2, 601)]
def K7_16 : List (Nat × Nat) := [(1, 2), (1, 160), (1, 2), (1, 160), (1, 2), (1, 2), (1, 60), (1, 200), (1, 200), (2, 60100), (2, 60100), (2, 60100), (2, 60100), (2, 601), (2, 601), (2, 601)]
def K7_17 : List (Nat × Nat) := [(1, 2), (1, 160), (1, 2), (1, 160), (1, 2), (1, 2), (1, 60), (1, 200), (1, 200), (2, 60100), (2, 60100), (2, 60100), (2, 60100), (2, 601), (2, 601), (2, 601), (2, 601)]
def n7_1 (M : q_C) (h : Nat) : q_C := sR M h 0 (some (h + 1))
def n7_2 (M : q_C) (h : Nat) : q_C := sR (n7_1 M h) h 1 (some (h + 2))
def n7_3 (M : q_C) (h : Nat) : q_C := sR (n7_2 M h) h 2 (some (h + 3))
def n7_4 (M : q_C) (h : Nat) : q_C := sR (n7_3 M h) h 3 (some (h + 4))
def n7_5 (M : q_C) (h : Nat) : q_C := sR (n7_4 M h) h 4 (some (h + 5))
def n7_6 (M : q_C) (h : Nat) : q_C := sI (sR (n7_5 M h) h 5 (some (h + 6))) h 6 0
def n7_7 (M : q_C) (h : Nat) : q_C := sI (sI (sI (sI (sI (sI (sI (sR (n7_6 M h) h 7 (some (h + 7))) h 8 500) h 9 500) h 10 6) h 11 (-1)) h 12 (-1)) h 13 (-1)) h 14 0
def n7_8 (M : q_C) (h : Nat) : q_C := sR (n7_7 M h) h 15 (some (h + 8))
def n7_9 (M : q_C) (h : Nat) : q_C := sR (n7_8 M h) h 16 (some (h + 9))
def n7_10 (M : q_C) (h : Nat) : q_C := sR (n7_9 M h) h 17 (some (h + 10))
def n7_11 (M : q_C) (h : Nat) : q_C := sR (n7_10 M h) h 18 (some (h + 11))
def n7_12 (M : q_C) (h : Nat) : q_C := sR (n7_11 M h) h 19 (some (h + 12))
def n7_13 (M : q_C) (h : Nat) : q_C := sJ (sJ (sJ (sJ (sI (sR (n7_12 M h) h 20 (some (h + 13))) h 21 (-1000)) h 22 0) h 23 0) h 24 0) h 25 0
def n7_14 (M : q_C) (h : Nat) : q_C := sR (n7_13 M h) h 26 (some (h + 14))
def n7_15 (M : q_C) (h : Nat) : q_C := sR (n7_14 M h) h 27 (some (h + 15))
def n7_16 (M : q_C) (h : Nat) : q_C := sR (n7_15 M h) h 28 (some (h + 16))
def n7_17 (M : q_C) (h : Nat) : q_C := sR (n7_16 M h) h 29 (some (h + 17))
theorem fn7_1 {M : q_C} {h : Nat} (hf : fz (h + 1) M) : fz (h + 1) (n7_1 M h) := fz_R hf (Nat.lt_succ_self _) _ _
theorem fn7_2 {M : q_C} {h : Nat} (hf : fz (h + 1) M) : fz (h + 1) (n7_2 M h) := fz_R (fn7_1 hf) (Nat.lt_succ_self _) _ _
theorem fn7_3 {M : q_C} {h : Nat} (hf : fz (h + 1) M) : fz (h + 1) (n7_3 M h) := fz_R (fn7_2 hf) (Nat.lt_succ_self _) _ _
theorem fn7_4 {M : q_C} {h : Nat} (hf : fz (h + 1) M) : fz (h + 1) (n7_4 M h) := fz_R (fn7_3 hf) (Nat.lt_succ_self _) _ _
theorem fn7_5 {M : q_C} {h : Nat} (hf : fz (h + 1) M) : fz (h + 1) (n7_5 M h) := fz_R (fn7_4 hf) (Nat.lt_succ_self _) _ _
theorem fn7_6 {M : q_C} {h : Nat} (hf : fz (h + 1) M) : fz (h + 1) (n7_6 M h) := fz_I (fz_R (fn7_5 hf) (Nat.lt_succ_self _) _ _) (Nat.lt_succ_self _) _ _
theorem fn7_7 {M : q_C} {h : Nat} (hf : fz (h + 1) M) : fz (h + 1) (n7_7 M h) := fz_I (fz_I (fz_I (fz_I (fz_I (fz_I (fz_I (fz_R (fn7_6 hf) (Nat.lt_succ_self _) _ _) (Nat.lt_succ_self _) _ _) (Nat.lt_succ_self _) _ _) (Nat.lt_succ_self _) _ _) (Nat.lt_succ_self _) _ _) (Nat.lt_succ_self _) _ _) (Nat.lt_succ_self _) _ _) (Nat.lt_succ_self _) _ _
theorem fn7_8 {M : q_C} {h : Nat} (hf : fz (h + 1) M) : fz (h + 1) (n7_8 M h) := fz_R (fn7_7 hf) (Nat.lt_succ_self _) _ _
theorem fn7_9 {M : q_C} {h : Nat} (hf : fz (h + 1) M) : fz (h + 1) (n7_9 M h) := fz_R (fn7_8 hf) (Nat.lt_succ_self _) _ _
theorem fn7_10 {M : q_C} {h : Nat} (hf : fz (h + 1) M) : fz (h + 1) (n7_10 M h) := fz_R (fn7_9 hf) (Nat.lt_succ_self _) _ _
theorem fn7_11 {M : q_C} {h : Nat} (hf : fz (h + 1) M) : fz (h + 1) (n7_11 M h) := fz_R (fn7_10 hf) (Nat.lt_succ_self _) _ _
theorem fn7_12 {M : q_C} {h : Nat} (hf : fz (h + 1) M) : fz (h + 1) (n7_12 M h) := fz_R (fn7_11 hf) (Nat.lt_succ_self _) _ _
theorem fn7_13 {M : q_C} {h : Nat} (hf : fz (h + 1) M) : fz (h + 1) (n7_13 M h) := fz_J (fz_J (fz_J (fz_J (fz_I (fz_R (fn7_12 hf) (Nat.lt_succ_self _) _ _) (Nat.lt_succ_self _) _ _) (Nat.lt_succ_self _) _ _) (Nat.lt_succ_self _) _ _) (Nat.lt_succ_self _) _ _) (Nat.lt_succ_self _) _ _
theorem fn7_14 {M : q_C} {h : Nat} (hf : fz (h + 1) M) : fz (h + 1) (n7_14 M h) := fz_R (fn7_13 hf) (Nat.lt_succ_self _) _ _
theorem fn7_15 {M : q_C} {h : Nat} (hf : fz (h + 1) M) : fz (h + 1) (n7_15 M h) := fz_R (fn7_14 hf) (Nat.lt_succ_self _) _ _
theorem fn7_16 {M : q_C} {h : Nat} (hf : fz (h + 1) M) : fz (h + 1) (n7_16 M h) := fz_R (fn7_15 hf) (Nat.lt_succ_self _) _ _
theorem fn7_17 {M : q_C} {h : Nat} (hf : fz (h + 1) M) : fz (h + 1) (n7_17 M h) := fz_R (fn7_16 hf) (Nat.lt_succ_self _) _ _
def n7_f (M : q_C) (h : Nat) : q_C := sI (n7_17 M h) (h + 5) 0 10000000
theorem n7_g4 (M : q_C) (h : Nat) : gR (n7_17 M h) h 4 = some (h + 5) := by
  simp [n7_17, n7_16, n7_15, n7_14, n7_13, n7_12, n7_11, n7_10, n7_9, n7_8, n7_7, n7_6, n7_5, n7_4, n7_3, n7_2, n7_1, gR_sR, gR_sI, gR_sJ]
theorem e_init7 {Z : q_Z} {M : q_C} {h : Nat} (ho : zo Z) (hk : zK Z h = 17) (hS : zS Z = h + 1) (hf : fz (h + 1) M) : fX7_init h Z M = some (zF Z K7_17, n7_f M h) := by
  have zo' : ∀ l, zo (zF Z l) := fun l => zF_o l _ ho
  have kz : ∀ l : List (Nat × Nat), zK (zF Z l) h = 17 := fun l => by rw [(zF_K l Z h (by omega)).1]; exact hk
  have k5 := zF_at K7_17 Z 4 (1, 2) rfl
  rw [hS] at k5
  have s17 : fX7_init_b213 h (h + 17) h (zF Z K7_17) (n7_16 M h) = some (zF Z K7_17, n7_f M h) := by
    unfold fX7_init_b213
    rw [q_gdk (kz K7_17)]
    simp only [q_nm]
    rw [q_gdk (kz K7_17), show sR (n7_16 M h) h 29 (some (h + 17)) = n7_17 M h from rfl, n7_g4, q_bis, q_gdc (show q_ok (zF Z K7_17) (h + 5) 1 (0 : Int32) = true from q_okT (i := 0) (show zK (zF Z K7_17) (h + 5) = 1 from k5.1) rfl (by decide) (by rw [show zL (zF Z K7_17) (h + 5) = 2 from k5.2]; decide))]
    rfl
  have s16 : fX7_init_b204 h (h + 16) h (zF Z K7_16) (n7_15 M h) = some (zF Z K7_17, n7_f M h) := by
    unfold fX7_init_b204
    rw [q_gdk (kz K7_16)]
    simp only [q_nm]
    rw [q_gdk (zo' K7_16 _ (Nat.le_refl _)), show zS (zF Z K7_16) = h + 17 by rw [zF_S, hS]; rfl, show sR (n7_15 M h) h 28 (some (h + 16)) = n7_16 M h from rfl, cN_id ((fn7_16 hf).up (by omega))]
    exact s17
  have s15 : fX7_init_b195 h (h + 15) h (zF Z K7_15) (n7_14 M h) = some (zF Z K7_17, n7_f M h) := by
    unfold fX7_init_b195
    rw [q_gdk (kz K7_15)]
    simp only [q_nm]
    rw [q_gdk (zo' K7_15 _ (Nat.le_refl _)), show zS (zF Z K7_15) = h + 16 by rw [zF_S, hS]; rfl, show sR (n7_14 M h) h 27 (some (h + 15)) = n7_15 M h from rfl, cN_id ((fn7_15 hf).up (by omega))]
    exact s16
  have s14 : fX7_init_b186 h (h + 14) h (zF Z K7_14) (n7_13 M h) = some (zF Z K7_17, n7_f M h) := by
    unfold fX7_init_b186
    rw [q_gdk (kz K7_14)]
    simp only [q_nm]
    rw [q_gdk (zo' K7_14 _ (Nat.le_refl _)), show zS (zF Z K7_14) = h + 15 by rw [zF_S, hS]; rfl, show sR (n7_13 M h) h 26 (some (h + 14)) = n7_14 M h from rfl, cN_id ((fn7_14 hf).up (by omega))]
    exact s15
  have s13 : fX7_init_b150 h (h + 13) h (zF Z K7_13) (n7_12 M h) = some (zF Z K7_17, n7_f M h) := by
    unfold fX7_init_b150
    rw [q_gdk (kz K7_13)]
    simp only [q_nm]
    rw [q_gdk (kz K7_13), q_gdk (zo' K7_13 _ (Nat.le_refl _)), show zS (zF Z K7_13) = h + 14 by rw [zF_S, hS]; rfl, show sJ (sJ (sJ (sJ (sI (sR (n7_12 M h) h 20 (some (h + 13))) h 21 (-1000)) h 22 0) h 23 0) h 24 0) h 25 0 = n7_13 M h from rfl, cN_id ((fn7_13 hf).up (by omega))]
    exact s14
  have s12 : fX7_init_b142 h (h + 12) h (zF Z K7_12) (n7_11 M h) = some (zF Z K7_17, n7_f M h) := by
    unfold fX7_init_b142
    rw [q_gdk (kz K7_12)]
    simp only [q_nm]
    rw [q_gdk (zo' K7_12 _ (Nat.le_refl _)), show zS (zF Z K7_12) = h + 13 by rw [zF_S, hS]; rfl, show sR (n7_11 M h) h 19 (some (h + 12)) = n7_12 M h from rfl, cN_id ((fn7_12 hf).up (by omega))]
    exact s13
  have s11 : fX7_init_b134 h (h + 11) h (zF Z K7_11) (n7_10 M h) = some (zF Z K7_17, n7_f M h) := by
    unfold fX7_init_b134
    rw [q_gdk (kz K7_11)]
    simp only [q_nm]
    rw [q_gdk (zo' K7_11 _ (Nat.le_refl _)), show zS (zF Z K7_11) = h + 12 by rw [zF_S, hS]; rfl, show sR (n7_10 M h) h 18 (some (h + 11)) = n7_11 M h from rfl, cN_id ((fn7_11 hf).up (by omega))]
    exact s12
  have s10 : fX7_init_b126 h (h + 10) h (zF Z K7_10) (n7_9 M h) = some (zF Z K7_17, n7_f M h) := by
    unfold fX7_init_b126
    rw [q_gdk (kz K7_10)]
    simp only [q_nm]
    rw [q_gdk (zo' K7_10 _ (Nat.le_refl _)), show zS (zF Z K7_10) = h + 11 by rw [zF_S, hS]; rfl, show sR (n7_9 M h) h 17 (some (h + 10)) = n7_10 M h from rfl, cN_id ((fn7_10 hf).up (by omega))]
    exact s11
  have s9 : fX7_init_b118 h (h + 9) h (zF Z K7_9) (n7_8 M h) = some (zF Z K7_17, n7_f M h) := by
    unfold fX7_init_b118
    rw [q_gdk (kz K7_9)]
    simp only [q_nm]
    rw [q_gdk (zo' K7_9 _ (Nat.le_refl _)), show zS (zF Z K7_9) = h + 10 by rw [zF_S, hS]; rfl, show sR (n7_8 M h) h 16 (some (h + 9)) = n7_9 M h from rfl, cN_id ((fn7_9 hf).up (by omega))]
    exact s10
  have s8 : fX7_init_b109 h (h + 8) h (zF Z K7_8) (n7_7 M h) = some (zF Z K7_17, n7_f M h) := by
    unfold fX7_init_b109
    rw [q_gdk (kz K7_8)]
    simp only [q_nm]
    rw [q_gdk (zo' K7_8 _ (Nat.le_refl _)), show zS (zF Z K7_8) = h + 9 by rw [zF_S, hS]; rfl, show sR (n7_7 M h) h 15 (some (h + 8)) = n7_8 M h from rfl, cN_id ((fn7_8 hf).up (by omega))]
    exact s9
  have s7 : fX7_init_b60 h (h + 7) h (zF Z K7_7) (n7_6 M h) = some (zF Z K7_17, n7_f M h) := by
    unfold fX7_init_b60
    rw [q_gdk (kz K7_7)]
    simp only [q_nm]
    rw [q_gdk (kz K7_7), q_gdk (zo' K7_7 _ (Nat.le_refl _)), show zS (zF Z K7_7) = h + 8 by rw [zF_S, hS]; rfl, show sI (sI (sI (sI (sI (sI (sI (sR (n7_6 M h) h 7 (some (h + 7))) h 8 500) h 9 500) h 10 6) h 11 (-1)) h 12 (-1)) h 13 (-1)) h 14 0 = n7_7 M h from rfl, cN_id ((fn7_7 hf).up (by omega))]
    exact s8
  have s6 : fX7_init_b47 h (h + 6) h (zF Z K7_6) (n7_5 M h) = some (zF Z K7_17, n7_f M h) := by
    unfold fX7_init_b47
    rw [q_gdk (kz K7_6)]
    simp only [q_nm]
    rw [q_gdk (kz K7_6), q_gdk (zo' K7_6 _ (Nat.le_refl _)), show zS (zF Z K7_6) = h + 7 by rw [zF_S, hS]; rfl, show sI (sR (n7_5 M h) h 5 (some (h + 6))) h 6 0 = n7_6 M h from rfl, cN_id ((fn7_6 hf).up (by omega))]
    exact s7
  have s5 : fX7_init_b40 h (h + 5) h (zF Z K7_5) (n7_4 M h) = some (zF Z K7_17, n7_f M h) := by
    unfold fX7_init_b40
    rw [q_gdk (kz K7_5)]
    simp only [q_nm]
    rw [q_gdk (zo' K7_5 _ (Nat.le_refl _)), show zS (zF Z K7_5) = h + 6 by rw [zF_S, hS]; rfl, show sR (n7_4 M h) h 4 (some (h + 5)) = n7_5 M h from rfl, cN_id ((fn7_5 hf).up (by omega))]
    exact s6
  have s4 : fX7_init_b33 h (h + 4) h (zF Z K7_4) (n7_3 M h) = some (zF Z K7_17, n7_f M h) := by
    unfold fX7_init_b33
    rw [q_gdk (kz K7_4)]
    simp only [q_nm]
    rw [q_gdk (zo' K7_4 _ (Nat.le_refl _)), show zS (zF Z K7_4) = h + 5 by rw [zF_S, hS]; rfl, show sR (n7_3 M h) h 3 (some (h + 4)) = n7_4 M h from rfl, cN_id ((fn7_4 hf).up (by omega))]
    exact s5
  have s3 : fX7_init_b24 h (h + 3) h (zF Z K7_3) (n7_2 M h) = some (zF Z K7_17, n7_f M h) := by
    unfold fX7_init_b24
    rw [q_gdk (kz K7_3)]
    simp only [q_nm]
    rw [q_gdk (zo' K7_3 _ (Nat.le_refl _)), show zS (zF Z K7_3) = h + 4 by rw [zF_S, hS]; rfl, show sR (n7_2 M h) h 2 (some (h + 3)) = n7_3 M h from rfl, cN_id ((fn7_3 hf).up (by omega))]
    exact s4
  have s2 : fX7_init_b17 h (h + 2) h (zF Z K7_2) (n7_1 M h) = some (zF Z K7_17, n7_f M h) := by
    unfold fX7_init_b17
    rw [q_gdk (kz K7_2)]
    simp only [q_nm]
    rw [q_gdk (zo' K7_2 _ (Nat.le_refl _)), show zS (zF Z K7_2) = h + 3 by rw [zF_S, hS]; rfl, show sR (n7_1 M h) h 1 (some (h + 2)) = n7_2 M h from rfl, cN_id ((fn7_2 hf).up (by omega))]
    exact s3
  have s1 : fX7_init_b8 h (h + 1) h (zF Z K7_1) M = some (zF Z K7_17, n7_f M h) := by
    unfold fX7_init_b8
    rw [q_gdk (kz K7_1)]
    simp only [q_nm]
    rw [q_gdk (zo' K7_1 _ (Nat.le_refl _)), show zS (zF Z K7_1) = h + 2 by rw [zF_S, hS]; rfl, show sR M h 0 (some (h + 1)) = n7_1 M h from rfl, cN_id ((fn7_1 hf).up (by omega))]
    exact s2
  unfold fX7_init
  rw [q_gdk (ho _ (Nat.le_refl _)), hS, cN_id hf]
  exact s1
theorem n7_R (M : q_C) (h : Nat) : gR (n7_f M h) h 0 = some (h + 1) ∧ gR (n7_f M h) h 1 = some (h + 2) ∧ gR (n7_f M h) h 2 = some (h + 3) ∧ gR (n7_f M h) h 3 = some (h + 4) ∧ gR (n7_f M h) h 4 = some (h + 5) ∧ gR (n7_f M h) h 5 = some (h + 6) ∧ gR (n7_f M h) h 7 = some (h + 7) ∧ gR (n7_f M h) h 15 = some (h + 8) ∧ gR (n7_f M h) h 16 = some (h + 9) ∧ gR (n7_f M h) h 17 = some (h + 10) ∧ gR (n7_f M h) h 18 = some (h + 11) ∧ gR (n7_f M h) h 19 = some (h + 12) ∧ gR (n7_f M h) h 20 = some (h + 13) ∧ gR (n7_f M h) h 26 = some (h + 14) ∧ gR (n7_f M h) h 27 = some (h + 15) ∧ gR (n7_f M h) h 28 = some (h + 16) ∧ gR (n7_f M h) h 29 = some (h + 17) := by
  refine ⟨?_, ?_, ?_, ?_, ?_, ?_, ?_, ?_, ?_, ?_, ?_, ?_, ?_, ?_, ?_, ?_, ?_⟩ <;> simp [n7_f, n7_17, n7_16, n7_15, n7_14, n7_13, n7_12, n7_11, n7_10, n7_9, n7_8, n7_7, n7_6, n7_5, n7_4, n7_3, n7_2, n7_1, gR_sR, gR_sI, gR_sJ]
theorem n7_I (M : q_C) (h : Nat) : gI (n7_f M h) h 6 = 0 ∧ gI (n7_f M h) h 8 = 500 ∧ gI (n7_f M h) h 9 = 500 ∧ gI (n7_f M h) h 10 = 6 ∧ gI (n7_f M h) h 11 = -1 ∧ gI (n7_f M h) h 12 = -1 ∧ gI (n7_f M h) h 13 = -1 ∧ gI (n7_f M h) h 14 = 0 ∧ gI (n7_f M h) h 21 = -1000 := by
  refine ⟨?_, ?_, ?_, ?_, ?_, ?_, ?_, ?_, ?_⟩ <;> simp [n7_f, n7_17, n7_16, n7_15, n7_14, n7_13, n7_12, n7_11, n7_10, n7_9, n7_8, n7_7, n7_6, n7_5, n7_4, n7_3, n7_2, n7_1, gI_sR, gI_sI, gI_sJ]
theorem n7_ag (M : q_C) (h : Nat) : q_ag (fun a => a ≠ h ∧ a ≠ h + 5) M (n7_f M h) := by
  exact ((((((((((((((((((((((((((((((q_ag.rf.sR (fun q => q.1 rfl) _ _).sR (fun q => q.1 rfl) _ _).sR (fun q => q.1 rfl) _ _).sR (fun q => q.1 rfl) _ _).sR (fun q => q.1 rfl) _ _).sR (fun q => q.1 rfl) _ _).sI (fun q => q.1 rfl) _ _).sR (fun q => q.1 rfl) _ _).sI (fun q => q.1 rfl) _ _).sI (fun q => q.1 rfl) _ _).sI (fun q => q.1 rfl) _ _).sI (fun q => q.1 rfl) _ _).sI (fun q => q.1 rfl) _ _).sI (fun q => q.1 rfl) _ _).sI (fun q => q.1 rfl) _ _).sR (fun q => q.1 rfl) _ _).sR (fun q => q.1 rfl) _ _).sR (fun q => q.1 rfl) _ _).sR (fun q => q.1 rfl) _ _).sR (fun q => q.1 rfl) _ _).sR (fun q => q.1 rfl) _ _).sI (fun q => q.1 rfl) _ _).sJ (fun q => q.1 rfl) _ _).sJ (fun q => q.1 rfl) _ _).sJ (fun q => q.1 rfl) _ _).sJ (fun q => q.1 rfl) _ _).sR (fun q => q.1 rfl) _ _).sR (fun q => q.1 rfl) _ _).sR (fun q => q.1 rfl) _ _).sR (fun q => q.1 rfl) _ _).sI (fun q => q.2 rfl) _ _
theorem n7_v5 (M : q_C) (h q : Nat) (hq : q ≠ 0) : gI (n7_f M h) (h + 5) q = gI M (h + 5) q := by
  simp [n7_f, n7_17, n7_16, n7_15, n7_14, n7_13, n7_12, n7_11, n7_10, n7_9, n7_8, n7_7, n7_6, n7_5, n7_4, n7_3, n7_2, n7_1, gI_sR, gI_sI, gI_sJ, hq]
theorem n7_v50 (M : q_C) (h : Nat) : gI (n7_f M h) (h + 5) 0 = 10000000 := gI_same _ _ _ _
