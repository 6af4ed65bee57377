section QA
variable {p : Program} {l : Launch} {e : Env} {R : Room} {s : State} {m : MethodId} {args : Array Value} {below : List Frame} {meth : Method} {c : Code} {H : Heap} {locs : List Loc} {cells slots : Nat} {Q : State → Prop}
variable {cc : ByteArray} {pc : Nat} {ls : Array Slot} {rest : List Value} {D : va_G} {cA : Nat → ClassId} {z0 a : Nat} {Z : q_Z} {M : q_C} {own : String} {index nL : Nat} {rt : Option FieldType} {nm : String}
theorem q_iaload (E : q_E p s m meth c cc nL own rt nm D cA) (hH : q_Hh D cA z0 s Z M H locs) {i : Int32} (ho : q_ok Z a 1 i = true) (hdg : decode cc pc = .ok (.iaload, 1))
    (kk : W p l e R s m args below meth c H locs cells slots Q (F0 m (pc + 1) ls (.int (gI M a i.toNatClampNeg) :: rest))) : W p l e R s m args below meth c H locs cells slots Q (F0 m pc ls (.int i :: .ref a :: rest)) := by
  obtain ⟨hk, hin⟩ := q_okE ho
  have hlt : i.toNatClampNeg < zL Z a := Nat.not_le.mp fun q => hin (Or.inr q)
  exact W.iald (v := .int (gI M a i.toNatClampNeg)) E.1 E.2.1 ((hH.1.2.2.2 a).1 hk) ((E.2.2.2.2.2.2.2.2.2 0 _ rfl).1 (zL Z a) (fun j => .int (M.1 a j))) (fun q => by cases q) (by rw [arrV_size]; exact hin) (by rw [arrV_read _ _ hlt]; rfl) rfl rfl hdg kk
theorem q_laload (E : q_E p s m meth c cc nL own rt nm D cA) (hH : q_Hh D cA z0 s Z M H locs) {i : Int32} (ho : q_ok Z a 2 i = true) (hdg : decode cc pc = .ok (.laload, 1))
    (kk : W p l e R s m args below meth c H locs cells slots Q (F0 m (pc + 1) ls (.long (gJ M a i.toNatClampNeg) :: rest))) : W p l e R s m args below meth c H locs cells slots Q (F0 m pc ls (.int i :: .ref a :: rest)) := by
  obtain ⟨hk, hin⟩ := q_okE ho
  have hlt : i.toNatClampNeg < zL Z a := Nat.not_le.mp fun q => hin (Or.inr q)
  exact W.lald (v := .long (gJ M a i.toNatClampNeg)) E.1 E.2.1 ((hH.1.2.2.2 a).2.1 hk) ((E.2.2.2.2.2.2.2.2.2 1 _ rfl).1 (zL Z a) (fun j => .long (M.2.1 a j))) (fun q => by cases q) (by rw [arrV_size]; exact hin) (by rw [arrV_read _ _ hlt]; rfl) rfl rfl hdg kk
theorem q_aaload3 (E : q_E p s m meth c cc nL own rt nm D cA) (hH : q_Hh D cA z0 s Z M H locs) {i : Int32} (ho : q_ok Z a 3 i = true) (hdg : decode cc pc = .ok (.aaload, 1))
    (kk : W p l e R s m args below meth c H locs cells slots Q (F0 m (pc + 1) ls (va_rf (gR M a i.toNatClampNeg) :: rest))) : W p l e R s m args below meth c H locs cells slots Q (F0 m pc ls (.int i :: .ref a :: rest)) := by
  obtain ⟨hk, hin⟩ := q_okE ho
  have hlt : i.toNatClampNeg < zL Z a := Nat.not_le.mp fun q => hin (Or.inr q)
  exact W.aald (v := va_rf (gR M a i.toNatClampNeg)) (ty := .object "CometBench$Sight") E.1 E.2.1 ((hH.1.2.2.2 a).2.2.1 3 (by decide) hk) ((E.2.2.2.2.2.2.2.2.2 2 _ rfl).1 (zL Z a) (fun j => va_rf (M.2.2 a j))) rfl (fun q => by cases q) (by rw [arrV_size]; exact hin) (by rw [arrV_read _ _ hlt]; rfl) rfl rfl hdg kk
theorem q_aaload4 (E : q_E p s m meth c cc nL own rt nm D cA) (hH : q_Hh D cA z0 s Z M H locs) {i : Int32} (ho : q_ok Z a 4 i = true) (hdg : decode cc pc = .ok (.aaload, 1))
    (kk : W p l e R s m args below meth c H locs cells slots Q (F0 m (pc + 1) ls (va_rf (gR M a i.toNatClampNeg) :: rest))) : W p l e R s m args below meth c H locs cells slots Q (F0 m pc ls (.int i :: .ref a :: rest)) := by
  obtain ⟨hk, hin⟩ := q_okE ho
  have hlt : i.toNatClampNeg < zL Z a := Nat.not_le.mp fun q => hin (Or.inr q)
  exact W.aald (v := va_rf (gR M a i.toNatClampNeg)) (ty := .object "CometBench$Way") E.1 E.2.1 ((hH.1.2.2.2 a).2.2.1 4 (by decide) hk) ((E.2.2.2.2.2.2.2.2.2 3 _ rfl).1 (zL Z a) (fun j => va_rf (M.2.2 a j))) rfl (fun q => by cases q) (by rw [arrV_size]; exact hin) (by rw [arrV_read _ _ hlt]; rfl) rfl rfl hdg kk
theorem q_alen1 (E : q_E p s m meth c cc nL own rt nm D cA) (hH : q_Hh D cA z0 s Z M H locs) (hk : zK Z a = 1) (hdg : decode cc pc = .ok (.arraylength, 1))
    (kk : W p l e R s m args below meth c H locs cells slots Q (F0 m (pc + 1) ls (.int (nI (zL Z a)) :: rest))) : W p l e R s m args below meth c H locs cells slots Q (F0 m pc ls (.ref a :: rest)) :=
  W.alen (n := nI (zL Z a)) E.1 E.2.1 ((hH.1.2.2.2 a).1 hk) ((E.2.2.2.2.2.2.2.2.2 0 _ rfl).1 (zL Z a) (fun j => .int (M.1 a j))) (by rw [arrV_size] <;> rfl) rfl rfl hdg kk
theorem q_alen2 (E : q_E p s m meth c cc nL own rt nm D cA) (hH : q_Hh D cA z0 s Z M H locs) (hk : zK Z a = 2) (hdg : decode cc pc = .ok (.arraylength, 1))
    (kk : W p l e R s m args below meth c H locs cells slots Q (F0 m (pc + 1) ls (.int (nI (zL Z a)) :: rest))) : W p l e R s m args below meth c H locs cells slots Q (F0 m pc ls (.ref a :: rest)) :=
  W.alen (n := nI (zL Z a)) E.1 E.2.1 ((hH.1.2.2.2 a).2.1 hk) ((E.2.2.2.2.2.2.2.2.2 1 _ rfl).1 (zL Z a) (fun j => .long (M.2.1 a j))) (by rw [arrV_size] <;> rfl) rfl rfl hdg kk
theorem q_alen3 (E : q_E p s m meth c cc nL own rt nm D cA) (hH : q_Hh D cA z0 s Z M H locs) (hk : zK Z a = 3) (hdg : decode cc pc = .ok (.arraylength, 1))
    (kk : W p l e R s m args below meth c H locs cells slots Q (F0 m (pc + 1) ls (.int (nI (zL Z a)) :: rest))) : W p l e R s m args below meth c H locs cells slots Q (F0 m pc ls (.ref a :: rest)) :=
  W.alen (n := nI (zL Z a)) E.1 E.2.1 ((hH.1.2.2.2 a).2.2.1 3 (by decide) hk) ((E.2.2.2.2.2.2.2.2.2 2 _ rfl).1 (zL Z a) (fun j => va_rf (M.2.2 a j))) (by rw [arrV_size] <;> rfl) rfl rfl hdg kk
theorem q_alen4 (E : q_E p s m meth c cc nL own rt nm D cA) (hH : q_Hh D cA z0 s Z M H locs) (hk : zK Z a = 4) (hdg : decode cc pc = .ok (.arraylength, 1))
    (kk : W p l e R s m args below meth c H locs cells slots Q (F0 m (pc + 1) ls (.int (nI (zL Z a)) :: rest))) : W p l e R s m args below meth c H locs cells slots Q (F0 m pc ls (.ref a :: rest)) :=
  W.alen (n := nI (zL Z a)) E.1 E.2.1 ((hH.1.2.2.2 a).2.2.1 4 (by decide) hk) ((E.2.2.2.2.2.2.2.2.2 3 _ rfl).1 (zL Z a) (fun j => va_rf (M.2.2 a j))) (by rw [arrV_size] <;> rfl) rfl rfl hdg kk
theorem q_iastore (E : q_E p s m meth c cc nL own rt nm D cA) (hH : q_Hh D cA z0 s Z M H locs) {i : Int32} {x : Int32} {α : Type} {K : q_C → α} {rs : α} (ho : q_ok Z a 1 i = true) (hdg : decode cc pc = .ok (.iastore, 1))
    (hf : q_nm (sI M a i.toNatClampNeg x) K = rs) (kk : ∀ (M1 : q_C) (H1 : Heap) (locs1 : List Loc), q_Hh D cA z0 s Z M1 H1 locs1 → K M1 = rs → W p l e R s m args below meth c H1 locs1 cells slots Q (F0 m (pc + 1) ls rest)) : W p l e R s m args below meth c H locs cells slots Q (F0 m pc ls (.int x :: .int i :: .ref a :: rest)) := by
  obtain ⟨hk, hin⟩ := q_okE ho
  refine W.iast E.1 E.2.1 ((hH.1.2.2.2 a).1 hk) ((E.2.2.2.2.2.2.2.2.2 0 _ rfl).1 (zL Z a) (fun j => .int (M.1 a j))) (fun q => by cases q) (by rw [arrV_size]; exact hin) rfl rfl hdg fun H1 e1 e2 e3 => ?_
  refine kk (sI M a i.toNatClampNeg x) H1 _ (hH.put (by omega) (fun b hb => ⟨by first | rfl | exact q_u2a _ _ _ _ hb, by first | rfl | exact q_u2a _ _ _ _ hb, rfl⟩) e2 e3 ⟨fun _ => ?_, fun h => by omega, fun k2 h1 h2 => by omega, fun ci2 r2 hc2 hk2 => by omega⟩) hf
  rw [e1, arrV_store, ← q_u2f]
  rfl
theorem q_lastore (E : q_E p s m meth c cc nL own rt nm D cA) (hH : q_Hh D cA z0 s Z M H locs) {i : Int32} {x : Int64} {α : Type} {K : q_C → α} {rs : α} (ho : q_ok Z a 2 i = true) (hdg : decode cc pc = .ok (.lastore, 1))
    (hf : q_nm (sJ M a i.toNatClampNeg x) K = rs) (kk : ∀ (M1 : q_C) (H1 : Heap) (locs1 : List Loc), q_Hh D cA z0 s Z M1 H1 locs1 → K M1 = rs → W p l e R s m args below meth c H1 locs1 cells slots Q (F0 m (pc + 1) ls rest)) : W p l e R s m args below meth c H locs cells slots Q (F0 m pc ls (.long x :: .int i :: .ref a :: rest)) := by
  obtain ⟨hk, hin⟩ := q_okE ho
  refine W.last E.1 E.2.1 ((hH.1.2.2.2 a).2.1 hk) ((E.2.2.2.2.2.2.2.2.2 1 _ rfl).1 (zL Z a) (fun j => .long (M.2.1 a j))) (fun q => by cases q) (by rw [arrV_size]; exact hin) rfl rfl hdg fun H1 e1 e2 e3 => ?_
  refine kk (sJ M a i.toNatClampNeg x) H1 _ (hH.put (by omega) (fun b hb => ⟨by first | rfl | exact q_u2a _ _ _ _ hb, by first | rfl | exact q_u2a _ _ _ _ hb, rfl⟩) e2 e3 ⟨fun h => by omega, fun _ => ?_, fun k2 h1 h2 => by omega, fun ci2 r2 hc2 hk2 => by omega⟩) hf
  rw [e1, arrV_store, ← q_u2f]
  rfl
theorem q_aastore3 {v : Nat} (E : q_E p s m meth c cc nL own rt nm D cA) (hH : q_Hh D cA z0 s Z M H locs) {i : Int32} {α : Type} {K : q_C → α} {rs : α} (ho : q_ok Z a 3 i = true) (hkv : zK Z v = 12) (hdg : decode cc pc = .ok (.aastore, 1))
    (hf : q_nm (sR M a i.toNatClampNeg (some v)) K = rs) (kk : ∀ (M1 : q_C) (H1 : Heap) (locs1 : List Loc), q_Hh D cA z0 s Z M1 H1 locs1 → K M1 = rs → W p l e R s m args below meth c H1 locs1 cells slots Q (F0 m (pc + 1) ls rest)) : W p l e R s m args below meth c H locs cells slots Q (F0 m pc ls (.ref v :: .int i :: .ref a :: rest)) := by
  obtain ⟨hk, hin⟩ := q_okE ho
  have hlt : i.toNatClampNeg < zL Z a := Nat.not_le.mp fun q => hin (Or.inr q)
  obtain ⟨cellV, g1, g2, g3, -⟩ := (hH.1.2.2.2 v).2.2.2 2 _ rfl hkv
  have hKK := E.2.2.2.2.2.2.2.2
  have hcls := (hKK.1 2 _ rfl).2
  obtain ⟨kA, comp, k1, k2, k3, -⟩ := (hKK.2 2 _ rfl).2
  have hcomp : comp = D.1 2 := Option.some.inj (k3.symm.trans hcls.1)
  subst hcomp
  obtain ⟨kC, hkC, -⟩ := hcls.2
  refine W.aast E.1 E.2.1 ((hH.1.2.2.2 a).2.2.1 3 (by decide) hk) (fun q h => by cases h) (fun h => by cases h) k1 k2 rfl hkC ⟨fun q => hin (Or.inl q), by rw [arrV_size]; exact hlt⟩ g1 (fun q h => by rw [g3] at h; cases h) (by rw [g2]; exact hkC) (by rw [g2]; exact va_assign hcls) rfl rfl hdg fun H1 e1 e2 e3 => ?_
  refine kk (sR M a i.toNatClampNeg (some v)) H1 _ (hH.put (by omega) (fun b hb => ⟨rfl, rfl, q_u2a _ _ _ _ hb⟩) e2 e3 ⟨fun h => by omega, fun h => by omega, fun k2 h1 h2 => ?_, fun ci2 r2 hc2 hk2 => by omega⟩) hf
  obtain rfl : k2 = 3 := by omega
  rw [e1, arrV_store]
  exact congrArg (fun f => some (arrV (cA 3) (zL Z a) f)) (q_u2f M.2.2 a i.toNatClampNeg (some v) va_rf).symm
theorem q_aastore4 {v : Nat} (E : q_E p s m meth c cc nL own rt nm D cA) (hH : q_Hh D cA z0 s Z M H locs) {i : Int32} {α : Type} {K : q_C → α} {rs : α} (ho : q_ok Z a 4 i = true) (hkv : zK Z v = 15) (hdg : decode cc pc = .ok (.aastore, 1))
    (hf : q_nm (sR M a i.toNatClampNeg (some v)) K = rs) (kk : ∀ (M1 : q_C) (H1 : Heap) (locs1 : List Loc), q_Hh D cA z0 s Z M1 H1 locs1 → K M1 = rs → W p l e R s m args below meth c H1 locs1 cells slots Q (F0 m (pc + 1) ls rest)) : W p l e R s m args below meth c H locs cells slots Q (F0 m pc ls (.ref v :: .int i :: .ref a :: rest)) := by
  obtain ⟨hk, hin⟩ := q_okE ho
  have hlt : i.toNatClampNeg < zL Z a := Nat.not_le.mp fun q => hin (Or.inr q)
  obtain ⟨cellV, g1, g2, g3, -⟩ := (hH.1.2.2.2 v).2.2.2 5 _ rfl hkv
  have hKK := E.2.2.2.2.2.2.2.2
  have hcls := (hKK.1 5 _ rfl).2
  obtain ⟨kA, comp, k1, k2, k3, -⟩ := (hKK.2 3 _ rfl).2
  have hcomp : comp = D.1 5 := Option.some.inj (k3.symm.trans hcls.1)
  subst hcomp
  obtain ⟨kC, hkC, -⟩ := hcls.2
  refine W.aast E.1 E.2.1 ((hH.1.2.2.2 a).2.2.1 4 (by decide) hk) (fun q h => by cases h) (fun h => by cases h) k1 k2 rfl hkC ⟨fun q => hin (Or.inl q), by rw [arrV_size]; exact hlt⟩ g1 (fun q h => by rw [g3] at h; cases h) (by rw [g2]; exact hkC) (by rw [g2]; exact va_assign hcls) rfl rfl hdg fun H1 e1 e2 e3 => ?_
  refine kk (sR M a i.toNatClampNeg (some v)) H1 _ (hH.put (by omega) (fun b hb => ⟨rfl, rfl, q_u2a _ _ _ _ hb⟩) e2 e3 ⟨fun h => by omega, fun h => by omega, fun k2 h1 h2 => ?_, fun ci2 r2 hc2 hk2 => by omega⟩) hf
  obtain rfl : k2 = 4 := by omega
  rw [e1, arrV_store]
  exact congrArg (fun f => some (arrV (cA 4) (zL Z a) f)) (q_u2f M.2.2 a i.toNatClampNeg (some v) va_rf).symm
theorem q_Hh.mk {kd n : Nat} {H1 : Heap} (h : q_Hh D cA z0 s Z M H locs) (hz : zK Z (zS Z) = 0) (hkd : kd ≠ 0) (z : H1.size = zS Z + 1) (o : ∀ q : Nat, q < zS Z → H1[q]? = H[q]?) (ha : q_at D cA (zN Z kd n) (cN M (zS Z)) H1 (zS Z)) : q_Hh D cA z0 s (zN Z kd n) (cN M (zS Z)) H1 locs := by
  obtain ⟨⟨h1, h2, h3, h4⟩, hS⟩ := h
  refine ⟨⟨z, fun b hb => ?_, by show z0 ≤ zS Z + 1; omega, fun b => ?_⟩, ⟨?_, fun q g1 g2 => ?_, hS.2.2⟩⟩
  · show z0 ≤ b ∧ b < zS Z + 1
    by_cases hbz : b = zS Z
    · omega
    · have := h2 b (by simpa [zK, zN, zS, show b ≠ Z.1 from hbz] using hb)
      omega
  · by_cases hbz : b = zS Z
    · rw [hbz]; exact ha
    · have hb1 : b ≠ Z.1 := hbz
      by_cases hlt : b < zS Z
      · exact (h4 b).kept (by simp [zK, zN, hb1]) (by simp [zL, zN, hb1]) (by simp [cN, hbz]) (by simp [cN, hbz]) (by simp [cN, hbz]) (o b hlt)
      · have h0 : zK Z b = 0 := by
          by_cases q : zK Z b = 0
          · exact q
          · exact absurd (h2 b q).2 hlt
        have h00 : zK (zN Z kd n) b = 0 := by rw [← h0]; simp [zK, zN, hb1]
        exact ⟨fun q => by omega, fun q => by omega, fun k q1 q2 => by omega, fun ci r _ q => by omega⟩
  · have := hS.1
    omega
  · rw [o q (by have := hS.1; omega)]
    exact hS.2.1 q g1 g2
theorem q_new (E : q_E p s m meth c cc nL own rt nm D cA) (hH : q_Hh D cA z0 s Z M H locs) {ci : Nat} {r : vw_C} (hc : vwCl[ci]? = some r) (hcl : Cond.classLink own index r.1 ∈ q_gt) (hins : Cond.instantiable r.1 r.2.2 ∈ q_gt) (hini : Cond.initialized r.1 ∈ q_gt) (hz : zK Z (zS Z) = 0) (hcs : cells + 1 ≤ R.cells ∧ slots + r.2.2 ≤ R.slots) (hdg : decode cc pc = .ok (.new index, 3))
    (kk : ∀ H1 : Heap, q_Hh D cA z0 s (zN Z (10 + ci) r.2.2) (cN M (zS Z)) H1 locs → W p l e R s m args below meth c H1 locs (cells + 1) (slots + r.2.2) Q (F0 m (pc + 3) ls (.ref (zS Z) :: rest))) : W p l e R s m args below meth c H locs cells slots Q (F0 m pc ls rest) := by
  have hT := E.2.2.2.2.2.2.2.1
  have hKn := E.2.2.2.2.2.2.2.2.1 ci _ hc
  refine W.newcK E.1 E.2.1 E.2.2.2.1 (q_hts hT _ hcl) (q_hts hT _ hins) (q_hts hT _ hini) rfl hdg hcs.1 hcs.2 hKn.2.1 hH.1.1 fun H1 kC hkC e1 z1 o1 => ?_
  refine kk H1 (hH.mk hz (by omega) z1 o1 ?_)
  have hkk : zK (zN Z (10 + ci) r.2.2) (zS Z) = 10 + ci := by simp [zK, zN, zS]
  refine ⟨fun q => by omega, fun q => by omega, fun k q1 q2 => by omega, fun ci2 r2 hc2 hk2 => ?_⟩
  obtain rfl : ci2 = ci := by omega
  cases hc.symm.trans hc2
  refine (u_born (q_ty ci2) (q_hts (args := args) hT) (q_in ci2 r hc) hKn hkC e1 (q_tyk ci2 r hc)).to (fun k hk => ?_)
  rw [q_dv ci2 r hc k hk]
  simp [cN]
theorem q_newarr1 {n : Int32} {N : Nat} (E : q_E p s m meth c cc nL own rt nm D cA) (hH : q_Hh D cA z0 s Z M H locs) (harr : Cond.arrayClass .int ∈ q_gt) (hn : ¬ n < 0) (hN : n.toNatClampNeg = N) (hby : N * 8 ≤ 536870912) (hz : zK Z (zS Z) = 0) (hcs : cells + 1 ≤ R.cells ∧ slots + N ≤ R.slots) (hdg : decode cc pc = .ok (.newarray .int, 2))
    (kk : ∀ H1 : Heap, q_Hh D cA z0 s (zN Z 1 N) (cN M (zS Z)) H1 locs → W p l e R s m args below meth c H1 locs (cells + 1) (slots + N) Q (F0 m (pc + 2) ls (.ref (zS Z) :: rest))) : W p l e R s m args below meth c H locs cells slots Q (F0 m pc ls (.int n :: rest)) := by
  have hT := E.2.2.2.2.2.2.2.1
  refine va_newaK E.1 E.2.1 (atype := .int) (q_hts hT _ harr) rfl hdg rfl hn hN (Nat.le_trans (Nat.mul_le_mul_left N (show componentBytes .int ≤ 8 by decide)) hby) hcs.1 hcs.2 hH.1.1 fun H1 cB e1 z1 o1 _ hnm => ?_
  have hcB : cB = cA 1 := Option.some.inj (hnm.symm.trans (E.2.2.2.2.2.2.2.2.2 0 _ rfl).2)
  subst hcB
  have hkk : zK (zN Z 1 N) (zS Z) = 1 := by simp [zK, zN, zS]
  refine kk H1 (hH.mk hz (by omega) z1 o1 ⟨fun _ => ?_, fun h => by omega, fun k2 h1 h2 => by omega, fun ci2 r2 hc2 hk2 => by omega⟩)
  have hll : zL (zN Z 1 N) (zS Z) = N := by simp [zL, zN, zS]
  rw [e1, hll]
  congr 2
  funext j
  simp [cN, newarray.typeOf, defaultValue]
theorem q_newarr2 {n : Int32} {N : Nat} (E : q_E p s m meth c cc nL own rt nm D cA) (hH : q_Hh D cA z0 s Z M H locs) (harr : Cond.arrayClass .long ∈ q_gt) (hn : ¬ n < 0) (hN : n.toNatClampNeg = N) (hby : N * 8 ≤ 536870912) (hz : zK Z (zS Z) = 0) (hcs : cells + 1 ≤ R.cells ∧ slots + N ≤ R.slots) (hdg : decode cc pc = .ok (.newarray .long, 2))
    (kk : ∀ H1 : Heap, q_Hh D cA z0 s (zN Z 2 N) (cN M (zS Z)) H1 locs → W p l e R s m args below meth c H1 locs (cells + 1) (slots + N) Q (F0 m (pc + 2) ls (.ref (zS Z) :: rest))) : W p l e R s m args below meth c H locs cells slots Q (F0 m pc ls (.int n :: rest)) := by
  have hT := E.2.2.2.2.2.2.2.1
  refine va_newaK E.1 E.2.1 (atype := .long) (q_hts hT _ harr) rfl hdg rfl hn hN (Nat.le_trans (Nat.mul_le_mul_left N (show componentBytes .long ≤ 8 by decide)) hby) hcs.1 hcs.2 hH.1.1 fun H1 cB e1 z1 o1 _ hnm => ?_
  have hcB : cB = cA 2 := Option.some.inj (hnm.symm.trans (E.2.2.2.2.2.2.2.2.2 1 _ rfl).2)
  subst hcB
  have hkk : zK (zN Z 2 N) (zS Z) = 2 := by simp [zK, zN, zS]
  refine kk H1 (hH.mk hz (by omega) z1 o1 ⟨fun h => by omega, fun _ => ?_, fun k2 h1 h2 => by omega, fun ci2 r2 hc2 hk2 => by omega⟩)
  have hll : zL (zN Z 2 N) (zS Z) = N := by simp [zL, zN, zS]
  rw [e1, hll]
  congr 2
  funext j
  simp [cN, newarray.typeOf, defaultValue]
theorem q_anew3 {n : Int32} {N : Nat} (E : q_E p s m meth c cc nL own rt nm D cA) (hH : q_Hh D cA z0 s Z M H locs) (hcl : Cond.classLink own index "CometBench$Sight" ∈ q_gt) (hn : ¬ n < 0) (hN : n.toNatClampNeg = N) (hby : N * 8 ≤ 536870912) (hz : zK Z (zS Z) = 0) (hcs : cells + 1 ≤ R.cells ∧ slots + N ≤ R.slots) (hdg : decode cc pc = .ok (.anewarray index, 3))
    (kk : ∀ H1 : Heap, q_Hh D cA z0 s (zN Z 3 N) (cN M (zS Z)) H1 locs → W p l e R s m args below meth c H1 locs (cells + 1) (slots + N) Q (F0 m (pc + 3) ls (.ref (zS Z) :: rest))) : W p l e R s m args below meth c H locs cells slots Q (F0 m pc ls (.int n :: rest)) := by
  have hT := E.2.2.2.2.2.2.2.1
  subst hN
  refine W.anew E.1 E.2.1 E.2.2.2.1 (q_hts hT _ hcl) (va_AO.use E.2.2.2.2.2.2.2.1.2.2.2.1) rfl hdg rfl hn (by omega) hcs.1 hcs.2 fun cB kA comp f1 f2 f3 f4 => ?_
  generalize hH1 : H.push ({ cls := cB, slots := Array.replicate n.toNatClampNeg .null, vm := .none } : Cell) = H1
  have z1 : H1.size = zS Z + 1 := by rw [← hH1, Array.size_push, hH.1.1]
  have e1 : H1[zS Z]? = some (arrV cB n.toNatClampNeg (fun _ => .null)) := by rw [← hH1, ← hH.1.1, Array.getElem?_push_size, ← arrV_new]
  have o1 : ∀ q : Nat, q < zS Z → H1[q]? = H[q]? := fun q hq => by rw [← hH1, Array.getElem?_push, if_neg (by rw [hH.1.1]; exact Nat.ne_of_lt hq)]
  obtain ⟨kA2, comp2, k1, k2, k3, k4⟩ := (E.2.2.2.2.2.2.2.2.2 2 _ rfl).2
  have hcB : cB = cA 3 := by first | exact Option.some.inj (f1.symm.trans k4) | exact Option.some.inj (f4.symm.trans k4)
  subst hcB
  have hkk : zK (zN Z 3 n.toNatClampNeg) (zS Z) = 3 := by simp [zK, zN, zS]
  have hll : zL (zN Z 3 n.toNatClampNeg) (zS Z) = n.toNatClampNeg := by simp [zL, zN, zS]
  rw [hH.1.1]
  refine kk H1 (hH.mk hz (by omega) z1 o1 ⟨fun h => by omega, fun h => by omega, fun k2 h1 h2 => ?_, fun ci2 r2 hc2 hk2 => by omega⟩)
  obtain rfl : k2 = 3 := by omega
  rw [e1, hll]
  congr 2
  funext j
  simp [cN, va_rf]
theorem q_anew4 {n : Int32} {N : Nat} (E : q_E p s m meth c cc nL own rt nm D cA) (hH : q_Hh D cA z0 s Z M H locs) (hcl : Cond.classLink own index "CometBench$Way" ∈ q_gt) (hn : ¬ n < 0) (hN : n.toNatClampNeg = N) (hby : N * 8 ≤ 536870912) (hz : zK Z (zS Z) = 0) (hcs : cells + 1 ≤ R.cells ∧ slots + N ≤ R.slots) (hdg : decode cc pc = .ok (.anewarray index, 3))
    (kk : ∀ H1 : Heap, q_Hh D cA z0 s (zN Z 4 N) (cN M (zS Z)) H1 locs → W p l e R s m args below meth c H1 locs (cells + 1) (slots + N) Q (F0 m (pc + 3) ls (.ref (zS Z) :: rest))) : W p l e R s m args below meth c H locs cells slots Q (F0 m pc ls (.int n :: rest)) := by
  have hT := E.2.2.2.2.2.2.2.1
  subst hN
  refine W.anew E.1 E.2.1 E.2.2.2.1 (q_hts hT _ hcl) (va_AO.use E.2.2.2.2.2.2.2.1.2.2.2.2) rfl hdg rfl hn (by omega) hcs.1 hcs.2 fun cB kA comp f1 f2 f3 f4 => ?_
  generalize hH1 : H.push ({ cls := cB, slots := Array.replicate n.toNatClampNeg .null, vm := .none } : Cell) = H1
  have z1 : H1.size = zS Z + 1 := by rw [← hH1, Array.size_push, hH.1.1]
  have e1 : H1[zS Z]? = some (arrV cB n.toNatClampNeg (fun _ => .null)) := by rw [← hH1, ← hH.1.1, Array.getElem?_push_size, ← arrV_new]
  have o1 : ∀ q : Nat, q < zS Z → H1[q]? = H[q]? := fun q hq => by rw [← hH1, Array.getElem?_push, if_neg (by rw [hH.1.1]; exact Nat.ne_of_lt hq)]
  obtain ⟨kA2, comp2, k1, k2, k3, k4⟩ := (E.2.2.2.2.2.2.2.2.2 3 _ rfl).2
  have hcB : cB = cA 4 := by first | exact Option.some.inj (f1.symm.trans k4) | exact Option.some.inj (f4.symm.trans k4)
  subst hcB
  have hkk : zK (zN Z 4 n.toNatClampNeg) (zS Z) = 4 := by simp [zK, zN, zS]
  have hll : zL (zN Z 4 n.toNatClampNeg) (zS Z) = n.toNatClampNeg := by simp [zL, zN, zS]
  rw [hH.1.1]
  refine kk H1 (hH.mk hz (by omega) z1 o1 ⟨fun h => by omega, fun h => by omega, fun k2 h1 h2 => ?_, fun ci2 r2 hc2 hk2 => by omega⟩)
  obtain rfl : k2 = 4 := by omega
  rw [e1, hll]
  congr 2
  funext j
  simp [cN, va_rf]
end QA
