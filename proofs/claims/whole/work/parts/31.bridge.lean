theorem q_T0 {b : Nat} {s : State} (hts : ∀ w ∈ lw_tbl, w.before #[Value.ref b] s = true) : q_T s :=
  ⟨fun A w hw => word_at (State.WarmedH.refl s) (good_of_word (q_gtE hw).2) (hts w (q_gtE hw).1), fun a i b n d h hw => va_Nw.of rfl (hts _ hw), fun a i x h hw => va_Nw.of rfl (hts _ hw), va_AO.of (hts (.arrayOver (.object "CometBench$Sight")) (by decide +kernel)), va_AO.of (hts (.arrayOver (.object "CometBench$Way")) (by decide +kernel))⟩
theorem q_ao {s : State} {C : String} (h : va_AO C s) : ∃ c : ClassId, ArrOfT s c (.object C) ∧ va_RA s c (.object C) := by
  obtain ⟨comp, c, k, h1, h2, h3, h4, h5⟩ := Cond.arrayOver_spec h
  exact ⟨c, fun n z => ⟨fun k h => (by cases h), k, h3, comp, h4⟩, k, comp, h3, h4, h1, h5⟩
theorem q_K0 {s : State} (hT : q_T s) : ∃ (D : va_G) (cA : Nat → ClassId), q_K D cA s := by
  have hts := q_hts (args := #[]) hT
  have kn : ∀ (ci : Nat) (r : vw_C), vwCl[ci]? = some r → ∃ (cC : ClassId) (iS : Nat → Nat), u_Kn s r.1 r.2.1 r.2.2 cC iS := by
    intro ci r h
    have hi : Cond.instantiable r.1 r.2.2 ∈ q_gt := by
      match ci, h with
      | 0, h => cases h; exact kI_X0
      | 1, h => cases h; exact kI_X1
      | 2, h => cases h; exact kI_X2
      | 3, h => cases h; exact kI_X3
      | 4, h => cases h; exact kI_X4
      | 5, h => cases h; exact kI_X5
      | 6, h => cases h; exact kI_X6
      | 7, h => cases h; exact kI_X7
      | k + 8, h => simp [vwCl] at h
    exact u_known hts (q_in ci r h) (hts _ hi)
  obtain ⟨ca, ha1, ha2⟩ : ∃ c : ClassId, ArrOfT s c .int ∧ va_RA s c .int := by
    obtain ⟨c, k, comp, h1, h2, h3⟩ := Cond.arrayClass_spec (hts _ kA_int)
    exact ⟨c, fun n z => ⟨fun k h => (by cases h), k, h2, comp, h3⟩, h1⟩
  obtain ⟨cb, hb1, hb2⟩ : ∃ c : ClassId, ArrOfT s c .long ∧ va_RA s c .long := by
    obtain ⟨c, k, comp, h1, h2, h3⟩ := Cond.arrayClass_spec (hts _ kA_long)
    exact ⟨c, fun n z => ⟨fun k h => (by cases h), k, h2, comp, h3⟩, h1⟩
  obtain ⟨cc, hc1, hc2⟩ := q_ao hT.2.2.2.1
  obtain ⟨cd, hd1, hd2⟩ := q_ao hT.2.2.2.2
  have ex : ∀ ci : Nat, ∃ q : ClassId × (Nat → Nat), ∀ r : vw_C, vwCl[ci]? = some r → u_Kn s r.1 r.2.1 r.2.2 q.1 q.2 := by
    intro ci
    cases h : vwCl[ci]? with
    | none => exact ⟨(0, fun _ => 0), fun r hr => by cases hr⟩
    | some r =>
      obtain ⟨c, i, hk⟩ := kn ci r h
      exact ⟨(c, i), fun r' hr => by cases hr; exact hk⟩
  refine ⟨(fun ci => (Classical.choose (ex ci)).1, fun ci => (Classical.choose (ex ci)).2), fun k => if k = 1 then ca else if k = 2 then cb else if k = 3 then cc else cd, fun ci r hr => Classical.choose_spec (ex ci) r hr, fun k q hk => ?_⟩
  match k, hk with
  | 0, hk => cases hk; exact ⟨ha1, ha2⟩
  | 1, hk => cases hk; exact ⟨hb1, hb2⟩
  | 2, hk => cases hk; exact ⟨hc1, hc2⟩
  | 3, hk => cases hk; exact ⟨hd1, hd2⟩
  | k + 4, hk => simp [q_tys] at hk
def q_Z0 (z : Nat) : q_Z := (z, 0, fun _ => 0, fun _ => 0)
def q_M0 : q_C := (fun _ _ => 0, fun _ _ => 0, fun _ _ => none)
/-- what is left: the law's function, over the memory -/
def q_Pure : Prop := ∀ (z b L : Nat) (xs : Nat → Int32), L ≤ 3072 → ∃ (Z' : q_Z) (M' : q_C), fL_law b L xs (q_Z0 z) q_M0 = some (1, Z', M') ∧ zS Z' - z ≤ 600000 ∧ zC Z' ≤ 7302250
theorem q_bridge (hp : q_Pure) {p : Program} {e : Env} {s : State} {m : MethodId} {below : List Frame} {meth : Method} {c : Code} (l : Launch) {b L : Nat} {xs : Nat → Int32} (hL : L ≤ 3072) (C0 : lw_At p s m meth c b L xs) : W p l e room_1 s m #[Value.ref b] below meth c s.heap [] 0 0 (lw_Z below #[Value.ref b] s) (entryFrame m ([Value.ref b] : List Value).toArray 4) := by
  obtain ⟨hx, hb, hr, hml, hown, hts, hX, hbl, hlocks, hgv⟩ := id C0
  have hT := q_T0 hts
  obtain ⟨D, cA, hK⟩ := q_K0 hT
  obtain ⟨Z', M', hf, h1, h2⟩ := hp s.heap.size b L xs hL
  have E : q_E p s m meth c cL_law 4 RL ret meth.name D cA := ⟨hx, hb, hml, hown, hr, hlocks, rfl, hT, hK⟩
  have hH : q_Hh D cA s.heap.size s (q_Z0 s.heap.size) q_M0 s.heap [] := by
    refine ⟨⟨rfl, fun a ha => absurd rfl ha, Nat.le_refl _, fun a => ⟨fun h => ?_, fun h => ?_, fun k h1 h2 => ?_, fun ci r _ h => ?_⟩⟩, va_S.rf⟩
    · exact absurd h (by simp [zK, q_Z0])
    · exact absurd h (by simp [zK, q_Z0])
    · exact absurd h2 (by simp [zK, q_Z0]; omega)
    · exact absurd h (by simp [zK, q_Z0]; omega)
  have hl := lv_entry ([.ref b]) (n := 4) (Nat.le_of_ble_eq_true rfl)
  rw [lg_entry_eq]
  refine q_wc (c1 := zS (q_Z0 s.heap.size) - zS (q_Z0 s.heap.size)) (s1 := zC (q_Z0 s.heap.size) - zC (q_Z0 s.heap.size)) (Nat.sub_self _).symm (Nat.sub_self _).symm ?_
  exact bL_law_0 E ⟨by decide, by decide⟩ (q_Z0 s.heap.size) q_le.rf ⟨h1, h2⟩ rfl hX hbl (Nat.not_le.mpr hbl) q_M0 _ _ _ hf hH hl
