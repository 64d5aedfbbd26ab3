/-! the texts and statics at the law's entry -/
section ENT
variable {args : Array Value} {s : State} {A : Nat → Prop}
theorem ent_s1 (hs : ∀ w ∈ nFL, w.before args s = true) (hA : ∀ a : Nat, a < s.heap.size → ¬ A a) {i : Nat} (hi : i < 22) : ∃ q : Nat × Nat, (sTm i).eval args s none [] s = some (.ref q.1) ∧ va_O "java/lang/String" q.1 A s s.heap ∧ va_OF "java/lang/String" "coder" "B" (.int 0) q.1 A s s.heap ∧ va_OF "java/lang/String" "value" "[B" (.ref q.2) q.1 A s s.heap ∧ va_T .byte q.2 (sLenL.getD i 0) (fun j => .int ((sBytL.getD i []).getD j 0)) A s s.heap := by
  have hm := List.mem_range.mpr hi
  have z : ∀ k : Nat, k < 1 → k = 0 := fun k h => by omega
  have hlen : sLenL.getD i 0 < 2 ^ 31 := (show ∀ i ∈ List.range 22, sLenL.getD i 0 < 2 ^ 31 by decide) i hm
  obtain ⟨aK, aV, hS, hE⟩ := vk_Sof (args := args) (s := s) (N := 1) (tm := fun _ => sTm i) (len := [sLenL.getD i 0]) (byt := [sBytL.getD i []]) (A := A) (fun k hk => by rw [z k hk]; exact hlen) (fun k hk => hs _ (sM1 i hm)) (fun k hk => hs _ (sM2 i hm)) (fun k hk => hs _ (sM3 i hm)) (fun k hk => by rw [z k hk]; exact hs _ (sM4 i hm)) (fun k hk => by rw [z k hk]; exact fun j hj => hs _ (sM5 i hm j (List.mem_range.mpr hj))) (fun k j hk hj h => absurd (by rw [z k hk, z j hj]) h) hA
  exact ⟨(aK 0, aV 0), hE 0 (by omega), hS.1 0 (by omega)⟩
theorem va_OF_same {o n d : String} {v v' : Value} {t : Nat} {U : State} {H : Heap} (h : va_OF o n d v t A U H) (h' : va_OF o n d v' t A U H) : v = v' := by
  obtain ⟨cf, k, i, f, cell, a1, a2, a3, a4, a5, a6⟩ := h
  obtain ⟨cf', k', i', f', cell', b1, b2, b3, b4, b5, b6⟩ := h'
  cases Option.some.inj (a1.symm.trans b1)
  cases Option.some.inj (a3.symm.trans b3)
  exact Option.some.inj (a5.symm.trans b5)
theorem ent_St (hts : ∀ w ∈ lw_tbl, w.before args s = true) (hs : ∀ w ∈ nFL, w.before args s = true) (hA : ∀ a : Nat, a < s.heap.size → ¬ A a) : ∃ ad, kSt ad A s s.heap := by
  have h0 : ∀ i : Nat, ∃ q : Nat × Nat, i < 22 → (sTm i).eval args s none [] s = some (.ref q.1) ∧ va_O "java/lang/String" q.1 A s s.heap ∧ va_OF "java/lang/String" "coder" "B" (.int 0) q.1 A s s.heap ∧ va_OF "java/lang/String" "value" "[B" (.ref q.2) q.1 A s s.heap ∧ va_T .byte q.2 (sLenL.getD i 0) (fun j => .int ((sBytL.getD i []).getD j 0)) A s s.heap := by
    intro i
    by_cases hi : i < 22
    · obtain ⟨q, hq⟩ := ent_s1 hs hA hi
      exact ⟨q, fun _ => hq⟩
    · exact ⟨(0, 0), fun h => absurd h hi⟩
  obtain ⟨f, hf⟩ := Classical.axiomOfChoice h0
  refine ⟨(fun i => (f i).1, fun i => (f i).2), ⟨fun i hi => (hf i hi).2, fun i j hi hj e => ?_⟩, fun q hq => ?_, ?_, ?_⟩
  · obtain ⟨-, -, -, oi, ti⟩ := hf i hi
    obtain ⟨-, -, -, oj, tj⟩ := hf j hj
    have e : (f i).1 = (f j).1 := e
    rw [e] at oi
    have ev : (f i).2 = (f j).2 := Value.ref.inj (va_OF_same oi oj)
    rw [ev] at ti
    obtain ⟨c1, a1, a2, a3, a4, a5, a6, a7⟩ := ti
    obtain ⟨c2, b1, b2, b3, b4, b5, b6, b7⟩ := tj
    cases Option.some.inj (a1.symm.trans b1)
    have el := a5.symm.trans b5
    have mi := List.mem_range.mpr hi
    have mj := List.mem_range.mpr hj
    refine sM8 i mi j mj el (fun k hk => ?_)
    have hk := List.mem_range.mp hk
    have h1 := a6 k hk
    have h2 := b6 k (by rw [← sM9 i mi j mj el]; exact hk)
    have := Option.some.inj (h1.symm.trans h2)
    exact Value.int.inj this
  · obtain ⟨h22, h⟩ := sM7 q hq
    refine vk_R.of (hts _ (sM6 q hq)) ?_
    have he := (hf _ h22).1
    rcases h with ⟨h1, h2⟩ | h
    · unfold sTm at he
      rw [h2] at he
      rw [h1]
      exact he
    · exact va_eqR (hs _ h) he
  · exact va_Zof (hts _ (sMz _ (List.mem_of_getElem? (i := 0) rfl))) (hts _ (sMz _ (List.mem_of_getElem? (i := 1) rfl))) (va_eqi (hs _ (sMn _ (List.mem_of_getElem? (i := 0) rfl)))) hA
  · exact va_Zqof (hts _ (sMz _ (List.mem_of_getElem? (i := 2) rfl))) (hts _ (sMz _ (List.mem_of_getElem? (i := 3) rfl))) (hs _ (sMn _ (List.mem_of_getElem? (i := 1) rfl))) hA
theorem ent_Ld (hts : ∀ w ∈ lw_tbl, w.before args s = true) (hs : ∀ w ∈ nFL, w.before args s = true) (hA : ∀ a : Nat, a < s.heap.size → ¬ A a) : ∃ sa, kLd sa A s s.heap := by
  obtain ⟨a, c, cA, kA, q1, -⟩ := Cond.exactly_spec (args := args) (first := s) (o := none) (s := s) (idx := []) (t := .string RX8 305) (cls := "java/lang/String") (hs _ (sMn _ (List.mem_of_getElem? (i := 2) rfl)))
  exact ⟨a, vk_R.of (hts _ (sMz _ (List.mem_of_getElem? (i := 4) rfl))) q1, ent_LB hts, vx_Zqof (hts _ (sMz _ (List.mem_of_getElem? (i := 5) rfl))) (hts _ (sMz _ (List.mem_of_getElem? (i := 7) rfl))) (hs _ (sMn _ (List.mem_of_getElem? (i := 3) rfl))) hA, vx_Zqof (hts _ (sMz _ (List.mem_of_getElem? (i := 6) rfl))) (hts _ (sMz _ (List.mem_of_getElem? (i := 7) rfl))) (hs _ (sMn _ (List.mem_of_getElem? (i := 4) rfl))) hA⟩
end ENT
