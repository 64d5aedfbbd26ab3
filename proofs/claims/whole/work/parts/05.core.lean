/-! CORE: loops and guards of the pure functions, pictures of cells, contracts of one form, calls of that form -/
/-- a loop: the body gives an end or a next state; none: it failed, or the fuel is used up -/
def lp {σ ρ : Type} (f : σ → Option (ρ ⊕ σ)) : Nat → σ → Option ρ
  | 0, _ => none
  | n + 1, s => match f s with
    | none => none
    | some (.inl r) => some r
    | some (.inr s') => lp f n s'
def gd {α : Type} (b : Bool) (x : Option α) : Option α := match b with
  | true => x
  | false => none
def ex {ρ σ : Type} (o : Option ρ) : Option (ρ ⊕ σ) := match o with
  | none => none
  | some r => some (.inl r)
def okI (i : Int32) (n : Nat) : Bool := decide (¬ (i < 0 ∨ n ≤ i.toNatClampNeg))
def nzI (x : Int32) : Bool := decide (¬ x = 0)
def isB (x : Int32) : Bool := decide (x = 0 ∨ x = 1)
theorem gd_some {α : Type} {b : Bool} {x : Option α} {y : α} (h : gd b x = some y) : b = true ∧ x = some y := by
  cases b
  · exact absurd h (by simp [gd])
  · exact ⟨rfl, h⟩
theorem ex_some {ρ σ : Type} {o : Option ρ} {y : ρ ⊕ σ} (h : ex o = some y) : ∃ r, o = some r ∧ y = .inl r := by
  cases o with
  | none => exact absurd h (by simp [ex])
  | some r => exact ⟨r, rfl, (Option.some.inj h).symm⟩
theorem k_bind {α β : Type} {o : Option α} {k : α → Option β} {y : β} (h : o.bind k = some y) : ∃ q, o = some q ∧ k q = some y := by
  cases o with
  | none => exact absurd h (by simp)
  | some q => exact ⟨q, rfl, h⟩
theorem k_pos {c : Prop} [Decidable c] {α : Type} {a b x : α} (h : c) (e : (if c then a else b) = x) : a = x := by rw [if_pos h] at e; exact e
theorem k_neg {c : Prop} [Decidable c] {α : Type} {a b x : α} (h : ¬ c) (e : (if c then a else b) = x) : b = x := by rw [if_neg h] at e; exact e
theorem okI_in {i : Int32} {n : Nat} (h : okI i n = true) : vp_in i n := of_decide_eq_true (p := ¬ (i < 0 ∨ n ≤ i.toNatClampNeg)) h
theorem nzI_ne {x : Int32} (h : nzI x = true) : ¬ x = 0 := of_decide_eq_true h
theorem isB_nar {x : Int32} (h : isB x = true) : narrow .boolean (.int x) = .int x := by
  rcases (of_decide_eq_true h : x = 0 ∨ x = 1) with rfl | rfl <;> rfl
theorem isB_fits {x : Int32} (h : isB x = true) : fits .boolean (.int x) = true := by
  rcases (of_decide_eq_true h : x = 0 ∨ x = 1) with rfl | rfl <;> rfl
theorem lp_0 {σ ρ : Type} {f : σ → Option (ρ ⊕ σ)} {s : σ} {x : ρ} (h : lp f 0 s = some x) : False := by simp [lp] at h
theorem lp_step {σ ρ : Type} {f : σ → Option (ρ ⊕ σ)} {n : Nat} {s : σ} {x : ρ} (h : lp f (n + 1) s = some x) : ∃ y, f s = some y ∧ (∀ r, y = .inl r → r = x) ∧ ∀ s', y = .inr s' → lp f n s' = some x := by
  rw [lp] at h
  cases hf : f s with
  | none => rw [hf] at h; exact absurd h (by simp)
  | some y =>
    rw [hf] at h
    refine ⟨y, rfl, fun r hr => ?_, fun s' hs => ?_⟩
    · subst hr; exact Option.some.inj h
    · subst hs; exact h
/-- the array classes: int[], byte[], long[], boolean[], int[][] -/
abbrev tyL (cy : Nat → ClassId) : List (ClassId × FieldType) := [(cy 0, .int), (cy 1, .byte), (cy 2, .long), (cy 3, .boolean), (cy 4, .array .int)]
abbrev rI (cy : Nat → ClassId) (n : Nat) (f : Nat → Int32) : va_E := .inl (cy 0, n, .inl f)
abbrev rB (cy : Nat → ClassId) (n : Nat) (f : Nat → Int32) : va_E := .inl (cy 1, n, .inl f)
abbrev rJ (cy : Nat → ClassId) (n : Nat) (f : Nat → Int64) : va_E := .inl (cy 2, n, .inr (.inl f))
abbrev rZ (cy : Nat → ClassId) (n : Nat) (f : Nat → Int32) : va_E := .inl (cy 3, n, .inl f)
abbrev rR (cy : Nat → ClassId) (n : Nat) (f : Nat → Option Nat) : va_E := .inl (cy 4, n, .inr (.inr (.inr (.inr f))))
/-- what the tables say of calls between nest mates -/
def nestL : List (String × Nat × MethodName) := [(RX1, 42, yX8_ringOfCell), (RX3, 11, yX6_init), (RX3, 30, yX8_ringOfCell), (RX4, 11, yX7_init), (RX4, 95, yX8_cellAt), (RX5, 226, yX8_cellAt), (RX6, 76, yX8_ringOfCell), (RX7, 42, yX8_ringOfCell), (RX8, 11, yX5_init), (RX8, 18, yX1_init), (RX8, 25, yX6_init), (RX8, 32, yX3_init), (RX8, 39, yX0_init)]
def kN (U : State) : Prop := ∀ q ∈ nestL, va_Nw (.methodLinkNest q.1 q.2.1 q.2.2 "NightRound") U
theorem kN.warm {s U : State} (hW : s.WarmedH U.vm) (h : kN s) : kN U := fun q hq => va_Nw.warmM hW (h q hq)
theorem kN.same {u U : State} (hv : u.vm = U.vm) (h : kN u) : kN U := fun q hq => va_Nw.same rfl hv (h q hq)
/-- a contract's start: the cells ws, the tables, the addresses apart -/
abbrev kU (D : va_G) (cy : Nat → ClassId) (ws : va_W) (sz : Nat) (U : State) : Prop := U.heap.size = sz ∧ va_P D vwCl ws U.heap ∧ va_K D vwCl (tyL cy) U ∧ va_D (fun _ => True) ws ∧ kN U
abbrev kPre (D : va_G) (cy : Nat → ClassId) (av : List Value) (ws : va_W) (sz : Nat) : Array Value → State → Prop := va_Pc av (kU D cy ws sz)
/-- its end: the cells ws2 -/
abbrev kB (D : va_G) (cy : Nat → ClassId) (A : Nat → Prop) (ws2 : va_W) : Unit → State → Prop := fun _ t => va_P D vwCl ws2 t.heap ∧ va_K D vwCl (tyL cy) t ∧ va_D A ws2
abbrev kQi (D : va_G) (cy : Nat → ClassId) (r : Int32) (A : Nat → Prop) (ws2 : va_W) : Array Value → State → Outcome → State → Prop := va_Qi (fun r' (_ : Unit) => r' = r) (kB D cy A ws2) A
abbrev kQl (D : va_G) (cy : Nat → ClassId) (r : Int64) (A : Nat → Prop) (ws2 : va_W) : Array Value → State → Outcome → State → Prop := va_Ql (fun r' (_ : Unit) => r' = r) (kB D cy A ws2) A
abbrev kQv (D : va_G) (cy : Nat → ClassId) (A : Nat → Prop) (ws2 : va_W) : Array Value → State → Outcome → State → Prop := va_Qv (fun (_ : Unit) => True) (kB D cy A ws2) A
theorem kU.blind {D : va_G} {cy : Nat → ClassId} {av : List Value} {ws : va_W} {sz : Nat} : FrameBlind (kPre D cy av ws sz) := fun a U g mk q => by
  obtain ⟨q0, q1, qP, qK, qD, qN⟩ := q
  exact ⟨q0, q1, qP, va_K.moved (u := U) (U := U.calling g mk a) (Vm.Alike.refl U.vm) qK, qD, kN.same (u := U) (U := U.calling g mk a) rfl qN⟩
section KC
variable {p : Program} {l : Launch} {e : Env} {R : Room} {s : State} {m : MethodId} {args : Array Value} {below : List Frame} {meth : Method} {c : Code} {H H0 : Heap} {locs : List Loc} {cells slots : Nat} {Q : State → Prop}
variable {y : MethodName} {bytes cc : ByteArray} {maxL nL mc ms n index : Nat} {ret : Option FieldType} {wsy : List Cond} {rm : Room} {Qc : Array Value → State → Outcome → State → Prop} {free : Addr → Prop} {Ts : List Cond} {own C host : String} {b : Addr} {As rest st0 : List Value} {pc : Nat} {ls : Array Slot}
variable {D : va_G} {cy : Nat → ClassId} {A : Nat → Prop} {ws wc wc2 wr ws2 : va_W}
theorem kStart (hK : va_K D vwCl (tyL cy) s) (hN : kN s) (hP : va_P D vwCl ws H) (hD : va_D A ws) (isC : List Nat) (hC : isC.map (fun i => ws[i]?) = wc.map some) (hnd : va_nd isC = true) : ∀ U : State, U.heap = H → s.WarmedH U.vm → kU D cy wc H.size U := fun U hU hW => by
  have hs : isC.filterMap (fun i => ws[i]?) = wc := by
    have h2 : ∀ (is : List Nat) (w : va_W), is.map (fun i => ws[i]?) = w.map some → is.filterMap (fun i => ws[i]?) = w := by
      intro is
      induction is with
      | nil => intro w hw; cases w with
        | nil => rfl
        | cons a w => cases hw
      | cons i is ih => intro w hw; cases w with
        | nil => cases hw
        | cons a w =>
          rw [List.map_cons, List.map_cons] at hw
          obtain ⟨h1, h2⟩ := List.cons.inj hw
          rw [List.filterMap_cons, h1, ih w h2]
    exact h2 isC wc hC
  exact ⟨by rw [hU], by rw [hU]; exact hP.sub isC hs, va_K.moved hW.alike hK, (hD.sub isC hnd hC).weaken (fun _ _ _ _ => trivial), hN.warm hW⟩
theorem kRunV (S : CallFix p m c cc nL s args Ts own) (hM : Met l y wsy rm (kPre D cy (.ref b :: As) wc H.size) Qc mc ms free) (cw : CallW R s args own C index y bytes maxL ret wsy rm mc ms n) (hK : va_K D vwCl (tyL cy) s) (hN : kN s) (hP : va_P D vwCl ws H) (hD : va_D A ws) (isC : List Nat) (hC : isC.map (fun i => ws[i]?) = wc.map some) (hnd : va_nd isC = true)
    (q0 ci : Nat) {T : u_T} {N : Nat} {fs : List Value} (he : ws[q0]? = some (b, .inr (ci, fs))) (hc : vwCl[ci]? = some (C, T, N)) (hn : As.length = n) (hsize : ls.size = nL) (hst : st0 = As.reverse ++ .ref b :: rest) (hW : (rest.map fun v => v.category).sum ≤ 8) (hdg : decode cc pc = .ok (.invokevirtual index, 3)) (hf : cells + mc ≤ R.cells ∧ slots + ms ≤ R.slots) :
    va_Run p l e R s m args below meth c H locs cells slots mc ms (F0 m pc ls st0) rest (Qc (Value.ref b :: As).toArray) free :=
  va_runV S hM cw ⟨kU.blind, va_recv hK hP hc he, fun U hU hW => ⟨rfl, kStart hK hN hP hD isC hC hnd U hU hW⟩⟩ rfl hn hsize hst (lv_room hW) hdg hf
theorem kRunS (S : CallFix p m c cc nL s args Ts own) (hM : Met l y wsy rm (kPre D cy As wc H.size) Qc mc ms free) (cw : CallB R s args own index y bytes maxL ret wsy rm mc ms n ∧ (Cond.static y).before args s = true) (hK : va_K D vwCl (tyL cy) s) (hN : kN s) (hP : va_P D vwCl ws H) (hD : va_D A ws) (isC : List Nat) (hC : isC.map (fun i => ws[i]?) = wc.map some) (hnd : va_nd isC = true)
    (hn : As.length = n) (hsize : ls.size = nL) (hst : st0 = As.reverse ++ rest) (hW : (rest.map fun v => v.category).sum ≤ 8) (hdg : decode cc pc = .ok (.invokestatic index, 3)) (hf : cells + mc ≤ R.cells ∧ slots + ms ≤ R.slots) :
    va_Run p l e R s m args below meth c H locs cells slots mc ms (F0 m pc ls st0) rest (Qc As.toArray) free :=
  va_runS S hM cw ⟨kU.blind, fun U hU hW => ⟨rfl, kStart hK hN hP hD isC hC hnd U hU hW⟩⟩ rfl hn hsize hst (lv_room hW) hdg hf
theorem kRunSN (S : CallFix p m c cc nL s args Ts own) (hM : Met l y wsy rm (kPre D cy As wc H.size) Qc mc ms free) (cw : va_CN R s args own index y host bytes maxL ret wsy rm mc ms n ∧ (Cond.static y).before args s = true ∧ True) (hK : va_K D vwCl (tyL cy) s) (hN : kN s) (hP : va_P D vwCl ws H) (hD : va_D A ws) (isC : List Nat) (hC : isC.map (fun i => ws[i]?) = wc.map some) (hnd : va_nd isC = true)
    (hn : As.length = n) (hsize : ls.size = nL) (hst : st0 = As.reverse ++ rest) (hW : (rest.map fun v => v.category).sum ≤ 8) (hdg : decode cc pc = .ok (.invokestatic index, 3)) (hf : cells + mc ≤ R.cells ∧ slots + ms ≤ R.slots) :
    va_Run p l e R s m args below meth c H locs cells slots mc ms (F0 m pc ls st0) rest (Qc As.toArray) free :=
  va_runSN S hM cw ⟨kU.blind, fun U hU hW => ⟨rfl, kStart hK hN hP hD isC hC hnd U hU hW⟩⟩ rfl hn hsize hst (lv_room hW) hdg hf
theorem kAft {t : State} {H1 : Heap} (hP : va_P D vwCl ws H) (hD : va_D A ws) (isC isR : List Nat) (hC : isC.map (fun i => ws[i]?) = wc.map some) (hR : isR.map (fun i => ws[i]?) = wr.map some) (hn : va_nd isR = true) (hdis : ∀ i ∈ isR, i ∉ isC) (hF : ∀ q, va_A wc H.size q → A q) (ht : t.heap = H1) (hB : kB D cy (va_A wc H.size) wc2 () t) (hk : ∀ q : Nat, q < H.size → ¬ va_A wc H.size q → H1[q]? = H[q]?) (is : List Nat) (hnd : va_nd is = true) (hs1 : is.map (fun i => (wr ++ wc2)[i]?) = ws2.map some) (hs2 : is.filterMap (fun i => (wr ++ wc2)[i]?) = ws2) : va_P D vwCl ws2 H1 ∧ va_D A ws2 := by
  obtain ⟨hP1, hK1, hD1⟩ := hB
  rw [ht] at hP1
  obtain ⟨hP2, hD2⟩ := va_join hP hD isC isR hC hR hn hdis hk hF hP1 hD1
  exact ⟨hP2.sub is hs2, hD2.sub is hnd hs1⟩
theorem kCi {a : Array Value} {r : Int32} (hr : va_Run p l e R s m args below meth c H locs cells slots mc ms (F0 m pc ls st0) rest (kQi D cy r (va_A wc H.size) wc2 a) (va_A wc H.size)) (hP : va_P D vwCl ws H) (hD : va_D A ws) (hS : va_S A H0 H locs) (hA : ∀ q, H0.size ≤ q → A q) (isC isR : List Nat) (hC : isC.map (fun i => ws[i]?) = wc.map some) (hR : isR.map (fun i => ws[i]?) = wr.map some) (hn : va_nd isR = true) (hdis : ∀ i ∈ isR, i ∉ isC) (is : List Nat) (hnd : va_nd is = true) (hs1 : is.map (fun i => (wr ++ wc2)[i]?) = ws2.map some) (hs2 : is.filterMap (fun i => (wr ++ wc2)[i]?) = ws2)
    (kk : ∀ (H1 : Heap) (locs1 : List Loc), va_P D vwCl ws2 H1 → va_D A ws2 → va_S A H0 H1 locs1 → W p l e R s m args below meth c H1 locs1 (cells + mc) (slots + ms) Q (F0 m (pc + 3) ls (.int r :: rest))) : W p l e R s m args below meth c H locs cells slots Q (F0 m pc ls st0) := by
  have hF := va_free (wc := wc) hD hS hA isC hC
  refine va_calli hr hS (fun q _ h => hF q h) hF (fun r' u t H1 locs1 ht hvm hw hB hz1 hk1 hS1 => ?_)
  subst hw
  obtain ⟨hP2, hD2⟩ := kAft hP hD isC isR hC hR hn hdis hF ht hB hk1 is hnd hs1 hs2
  exact kk H1 locs1 hP2 hD2 hS1
theorem kCl {a : Array Value} {r : Int64} (hr : va_Run p l e R s m args below meth c H locs cells slots mc ms (F0 m pc ls st0) rest (kQl D cy r (va_A wc H.size) wc2 a) (va_A wc H.size)) (hP : va_P D vwCl ws H) (hD : va_D A ws) (hS : va_S A H0 H locs) (hA : ∀ q, H0.size ≤ q → A q) (isC isR : List Nat) (hC : isC.map (fun i => ws[i]?) = wc.map some) (hR : isR.map (fun i => ws[i]?) = wr.map some) (hn : va_nd isR = true) (hdis : ∀ i ∈ isR, i ∉ isC) (is : List Nat) (hnd : va_nd is = true) (hs1 : is.map (fun i => (wr ++ wc2)[i]?) = ws2.map some) (hs2 : is.filterMap (fun i => (wr ++ wc2)[i]?) = ws2)
    (kk : ∀ (H1 : Heap) (locs1 : List Loc), va_P D vwCl ws2 H1 → va_D A ws2 → va_S A H0 H1 locs1 → W p l e R s m args below meth c H1 locs1 (cells + mc) (slots + ms) Q (F0 m (pc + 3) ls (.long r :: rest))) : W p l e R s m args below meth c H locs cells slots Q (F0 m pc ls st0) := by
  have hF := va_free (wc := wc) hD hS hA isC hC
  refine va_calll hr hS (fun q _ h => hF q h) hF (fun r' u t H1 locs1 ht hvm hw hB hz1 hk1 hS1 => ?_)
  subst hw
  obtain ⟨hP2, hD2⟩ := kAft hP hD isC isR hC hR hn hdis hF ht hB hk1 is hnd hs1 hs2
  exact kk H1 locs1 hP2 hD2 hS1
theorem kCv {a : Array Value} (hr : va_Run p l e R s m args below meth c H locs cells slots mc ms (F0 m pc ls st0) rest (kQv D cy (va_A wc H.size) wc2 a) (va_A wc H.size)) (hP : va_P D vwCl ws H) (hD : va_D A ws) (hS : va_S A H0 H locs) (hA : ∀ q, H0.size ≤ q → A q) (isC isR : List Nat) (hC : isC.map (fun i => ws[i]?) = wc.map some) (hR : isR.map (fun i => ws[i]?) = wr.map some) (hn : va_nd isR = true) (hdis : ∀ i ∈ isR, i ∉ isC) (is : List Nat) (hnd : va_nd is = true) (hs1 : is.map (fun i => (wr ++ wc2)[i]?) = ws2.map some) (hs2 : is.filterMap (fun i => (wr ++ wc2)[i]?) = ws2)
    (kk : ∀ (H1 : Heap) (locs1 : List Loc), va_P D vwCl ws2 H1 → va_D A ws2 → va_S A H0 H1 locs1 → W p l e R s m args below meth c H1 locs1 (cells + mc) (slots + ms) Q (F0 m (pc + 3) ls rest)) : W p l e R s m args below meth c H locs cells slots Q (F0 m pc ls st0) := by
  have hF := va_free (wc := wc) hD hS hA isC hC
  refine va_callv hr hS (fun q _ h => hF q h) hF (fun u t H1 locs1 ht hvm hw hB hz1 hk1 hS1 => ?_)
  obtain ⟨hP2, hD2⟩ := kAft hP hD isC isR hC hR hn hdis hF ht hB hk1 is hnd hs1 hs2
  exact kk H1 locs1 hP2 hD2 hS1
end KC
abbrev oX0 (v : Nat → Int32) (q : Nat → Nat) : va_E := .inr (0, [.ref (q 0), .ref (q 1), .int (v 2), .int (v 3), .int (v 4), .int (v 5)])
abbrev oX1 (v : Nat → Int32) (q : Nat → Nat) : va_E := .inr (1, [.ref (q 0), .ref (q 1), .ref (q 2), .int (v 3), .int (v 4), .int (v 5)])
abbrev oX3 (v : Nat → Int32) (q : Nat → Nat) : va_E := .inr (2, [.ref (q 0)])
abbrev oX4 (v : Nat → Int32) (q : Nat → Nat) : va_E := .inr (3, [.int (v 0), .int (v 1), .int (v 2), .int (v 3), .int (v 4), .int (v 5), .int (v 6), .ref (q 7), .ref (q 8), .ref (q 9), .ref (q 10), .ref (q 11), .ref (q 12), .ref (q 13), .ref (q 14), .ref (q 15), .ref (q 16), .ref (q 17), .ref (q 18), .ref (q 19)])
abbrev oX5 (v : Nat → Int32) (q : Nat → Nat) (j11 : Int64) (a2 : Nat) : va_E := .inr (4, [.ref (q 0), .int (v 1), .ref a2, .ref (q 3), .ref (q 4), .int (v 5), .int (v 6), .int (v 7), .int (v 8), .int (v 9), .int (v 10), .long j11, .int (v 12)])
abbrev oX6 (v : Nat → Int32) (q : Nat → Nat) (a4 : Nat) : va_E := .inr (5, [.ref (q 0), .ref (q 1), .ref (q 2), .ref (q 3), .ref a4, .int (v 5), .int (v 6), .int (v 7), .int (v 8), .int (v 9), .int (v 10), .int (v 11), .int (v 12)])
abbrev oX7 (v : Nat → Int32) (q : Nat → Nat) : va_E := .inr (6, [.int (v 0), .ref (q 1), .ref (q 2), .ref (q 3), .ref (q 4)])
abbrev oX8 (v : Nat → Int32) (q : Nat → Nat) (a5 : Nat) : va_E := .inr (7, [.ref (q 0), .ref (q 1), .ref (q 2), .ref (q 3), .ref (q 4), .ref a5, .int (v 6), .int (v 7), .int (v 8)])
abbrev oX9 (v : Nat → Int32) (q : Nat → Nat) : va_E := .inr (8, [.int (v 0), .ref (q 1), .int (v 2), .int (v 3), .int (v 4), .int (v 5), .int (v 6), .int (v 7), .int (v 8), .int (v 9), .int (v 10), .int (v 11), .ref (q 12), .int (v 13), .int (v 14), .ref (q 15), .ref (q 16), .ref (q 17), .ref (q 18), .ref (q 19), .int (v 20), .int (v 21), .ref (q 22), .ref (q 23), .ref (q 24), .int (v 25), .int (v 26), .int (v 27), .int (v 28)])
