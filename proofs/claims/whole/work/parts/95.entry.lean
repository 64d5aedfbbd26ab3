/-! what the law's entry gives: the classes, the nest words -/
theorem wiX0 : Cond.instantiable RX0 6 ∈ W0 := memW (List.mem_append_right _ (List.mem_append_right _ (List.mem_append_left _ (List.mem_of_getElem? (i := 44) rfl)))) rfl
theorem wiX1 : Cond.instantiable RX1 6 ∈ W0 := memW (List.mem_append_right _ (List.mem_append_left _ (List.mem_of_getElem? (i := 197) rfl))) rfl
theorem wiX3 : Cond.instantiable RX3 1 ∈ W0 := memW (List.mem_append_right _ (List.mem_append_right _ (List.mem_append_left _ (List.mem_of_getElem? (i := 32) rfl)))) rfl
theorem wiX4 : Cond.instantiable RX4 20 ∈ W0 := memW (List.mem_append_right _ (List.mem_append_left _ (List.mem_of_getElem? (i := 38) rfl))) rfl
theorem wiX5 : Cond.instantiable RX5 13 ∈ W0 := memW (List.mem_append_right _ (List.mem_append_left _ (List.mem_of_getElem? (i := 32) rfl))) rfl
theorem wiX6 : Cond.instantiable RX6 13 ∈ W0 := memW (List.mem_append_right _ (List.mem_append_left _ (List.mem_of_getElem? (i := 224) rfl))) rfl
theorem wiX7 : Cond.instantiable RX7 5 ∈ W0 := memW (List.mem_append_right _ (List.mem_append_left _ (List.mem_of_getElem? (i := 44) rfl))) rfl
theorem wiX8 : Cond.instantiable RX8 9 ∈ W0 := memW (List.mem_append_right _ (List.mem_append_left _ (List.mem_of_getElem? (i := 24) rfl))) rfl
theorem wiX9 : Cond.instantiable RX9 29 ∈ W0 := memW (List.mem_append_right _ (List.mem_append_right _ (List.mem_append_right _ (List.mem_append_right _ (List.mem_append_right _ (List.mem_append_right _ (List.mem_append_left _ (List.mem_of_getElem? (i := 73) rfl)))))))) rfl
theorem ent_arr {args : Array Value} {s : State} {ty : FieldType} (h : (Cond.arrayClass ty).before args s = true) : ∃ cA : ClassId, ArrOfT s cA ty ∧ s.vm.findClass ("[" ++ ty.toString) = some cA := by
  obtain ⟨cA, kA, comp, h1, h2, h3⟩ := Cond.arrayClass_spec h
  exact ⟨cA, fun n z => ⟨fun k h => (by cases h), kA, h2, comp, h3⟩, h1⟩
theorem ent_arr2 {s : State} (h : va_AOA .int s) : ∃ cA : ClassId, ArrOfT s cA (.array .int) ∧ s.vm.findClass ("[" ++ (FieldType.array .int).toString) = some cA := by
  obtain ⟨comp, cA, kA, -, -, h2, h3, h1⟩ := arrayOverA_spec h
  exact ⟨cA, fun n z => ⟨fun k h => (by cases h), kA, h2, comp, h3⟩, h1⟩
theorem ent_K {args : Array Value} {s : State} (ht0 : ∀ w ∈ W0, w.before args s = true) (hO : va_AOA .int s) : ∃ (D : va_G) (cy : Nat → ClassId), va_K D vwCl (tyL cy) s := by
  obtain ⟨c0, i0, k0⟩ := u_known (C := RX0) (T := TX0) (N := 6) (n := 6) ht0 niX0 (ht0 _ wiX0)
  obtain ⟨c1, i1, k1⟩ := u_known (C := RX1) (T := TX1) (N := 6) (n := 6) ht0 niX1 (ht0 _ wiX1)
  obtain ⟨c2, i2, k2⟩ := u_known (C := RX3) (T := TX3) (N := 1) (n := 1) ht0 niX3 (ht0 _ wiX3)
  obtain ⟨c3, i3, k3⟩ := u_known (C := RX4) (T := TX4) (N := 20) (n := 20) ht0 niX4 (ht0 _ wiX4)
  obtain ⟨c4, i4, k4⟩ := u_known (C := RX5) (T := TX5) (N := 13) (n := 13) ht0 niX5 (ht0 _ wiX5)
  obtain ⟨c5, i5, k5⟩ := u_known (C := RX6) (T := TX6) (N := 13) (n := 13) ht0 niX6 (ht0 _ wiX6)
  obtain ⟨c6, i6, k6⟩ := u_known (C := RX7) (T := TX7) (N := 5) (n := 5) ht0 niX7 (ht0 _ wiX7)
  obtain ⟨c7, i7, k7⟩ := u_known (C := RX8) (T := TX8) (N := 9) (n := 9) ht0 niX8 (ht0 _ wiX8)
  obtain ⟨c8, i8, k8⟩ := u_known (C := RX9) (T := TX9) (N := 29) (n := 29) ht0 niX9 (ht0 _ wiX9)
  obtain ⟨a0, p0, q0⟩ := ent_arr (ht0 _ wn3)
  obtain ⟨a1, p1, q1⟩ := ent_arr (ht0 _ wn52)
  obtain ⟨a2, p2, q2⟩ := ent_arr (ht0 _ wn57)
  obtain ⟨a3, p3, q3⟩ := ent_arr (ht0 _ wn26)
  obtain ⟨a4, p4, q4⟩ := ent_arr2 hO
  refine ⟨(fun k => [c0, c1, c2, c3, c4, c5, c6, c7, c8].getD k c0, fun k => [i0, i1, i2, i3, i4, i5, i6, i7, i8].getD k i0), fun k => [a0, a1, a2, a3, a4].getD k a0, ?_, ?_⟩
  · intro k q hq
    match k, hq with
    | 0, hq => cases hq; exact k0
    | 1, hq => cases hq; exact k1
    | 2, hq => cases hq; exact k2
    | 3, hq => cases hq; exact k3
    | 4, hq => cases hq; exact k4
    | 5, hq => cases hq; exact k5
    | 6, hq => cases hq; exact k6
    | 7, hq => cases hq; exact k7
    | 8, hq => cases hq; exact k8
    | k + 9, hq => cases hq
  · intro k q hq
    match k, hq with
    | 0, hq => cases hq; exact ⟨p0, q0⟩
    | 1, hq => cases hq; exact ⟨p1, q1⟩
    | 2, hq => cases hq; exact ⟨p2, q2⟩
    | 3, hq => cases hq; exact ⟨p3, q3⟩
    | 4, hq => cases hq; exact ⟨p4, q4⟩
    | k + 5, hq => cases hq
theorem ent_nest : ∀ q ∈ nestL, Cond.methodLinkNest q.1 q.2.1 q.2.2 "NightRound" ∈ lw_tbl := by decide +kernel
theorem ent_N {args : Array Value} {s : State} (hts : ∀ w ∈ lw_tbl, w.before args s = true) : kN s := fun q hq => va_Nw.of rfl (hts _ (ent_nest q hq))
theorem ent_over : Cond.arrayOver (.array .int) ∈ lw_tbl := by decide +kernel
theorem ent_O {args : Array Value} {s : State} (hts : ∀ w ∈ lw_tbl, w.before args s = true) : va_AOA .int s := va_AOA.of (hts _ ent_over)
theorem ent_ledB : ∀ w ∈ ledB, w ∈ lw_tbl := by decide +kernel
theorem ent_LB {args : Array Value} {s : State} (hts : ∀ w ∈ lw_tbl, w.before args s = true) : kLB s := fun w hw => va_Nw.of (by simp only [ledB, List.mem_cons, List.not_mem_nil, or_false] at hw; rcases hw with rfl | rfl | rfl | rfl <;> rfl) (hts w (ent_ledB w hw))
