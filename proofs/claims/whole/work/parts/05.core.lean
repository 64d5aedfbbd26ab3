/-! CORE: loops and guards of the pure functions, pictures of cells, contracts of one form, calls of that form -/
/-- a loop: the body gives an end or a next state; none: it failed, or the fuel is used up -/
def lp {σ ρ : Type} (f : σ → Option (ρ ⊕ σ)) : Nat → σ → Option ρ
  | 0, _ => none
  | n + 1, s => match f s with
    | none => none
    | some (.inl r) => some r
    | some (.inr s') => lp f n s'
def gd {α : Type} (b : Bool) (x : Option α) : Option α := match b with
  | true => x
  | false => none
def ex {ρ σ : Type} (o : Option ρ) : Option (ρ ⊕ σ) := match o with
  | none => none
  | some r => some (.inl r)
def okI (i : Int32) (n : Nat) : Bool := decide (¬ (i < 0 ∨ n ≤ i.toNatClampNeg))
def nzI (x : Int32) : Bool := decide (¬ x = 0)
def isB (x : Int32) : Bool := decide (x = 0 ∨ x = 1)
def irm (x y : Int32) : Int32 := x - x / y * y
def isl (x y : Int32) : Int32 := x <<< (y &&& 31)
def isr (x y : Int32) : Int32 := x >>> (y &&& 31)
def ius (x y : Int32) : Int32 := (x.toUInt32 >>> (y.toUInt32 &&& Int32.toUInt32 31)).toInt32
theorem gd_some {α : Type} {b : Bool} {x : Option α} {y : α} (h : gd b x = some y) : b = true ∧ x = some y := by
  cases b
  · exact absurd h (by simp [gd])
  · exact ⟨rfl, h⟩
theorem ex_some {ρ σ : Type} {o : Option ρ} {y : ρ ⊕ σ} (h : ex o = some y) : ∃ r, o = some r ∧ y = .inl r := by
  cases o with
  | none => exact absurd h (by simp [ex])
  | some r => exact ⟨r, rfl, (Option.some.inj h).symm⟩
theorem k_bind {α β : Type} {o : Option α} {k : α → Option β} {y : β} (h : o.bind k = some y) : ∃ q, o = some q ∧ k q = some y := by
  cases o with
  | none => exact absurd h (by simp)
  | some q => exact ⟨q, rfl, h⟩
theorem k_pos {c : Prop} [Decidable c] {α : Type} {a b x : α} (h : c) (e : (if c then a else b) = x) : a = x := by rw [if_pos h] at e; exact e
theorem k_neg {c : Prop} [Decidable c] {α : Type} {a b x : α} (h : ¬ c) (e : (if c then a else b) = x) : b = x := by rw [if_neg h] at e; exact e
theorem okI_in {i : Int32} {n : Nat} (h : okI i n = true) : vp_in i n := of_decide_eq_true (p := ¬ (i < 0 ∨ n ≤ i.toNatClampNeg)) h
theorem nzI_ne {x : Int32} (h : nzI x = true) : ¬ x = 0 := of_decide_eq_true h
theorem isB_nar {x : Int32} (h : isB x = true) : narrow .boolean (.int x) = .int x := by
  rcases (of_decide_eq_true h : x = 0 ∨ x = 1) with rfl | rfl <;> rfl
theorem isB_fits {x : Int32} (h : isB x = true) : fits .boolean (.int x) = true := by
  rcases (of_decide_eq_true h : x = 0 ∨ x = 1) with rfl | rfl <;> rfl
theorem lp_0 {σ ρ : Type} {f : σ → Option (ρ ⊕ σ)} {s : σ} {x : ρ} (h : lp f 0 s = some x) : False := by simp [lp] at h
theorem lp_step {σ ρ : Type} {f : σ → Option (ρ ⊕ σ)} {n : Nat} {s : σ} {x : ρ} (h : lp f (n + 1) s = some x) : ∃ y, f s = some y ∧ (∀ r, y = .inl r → r = x) ∧ ∀ s', y = .inr s' → lp f n s' = some x := by
  rw [lp] at h
  cases hf : f s with
  | none => rw [hf] at h; exact absurd h (by simp)
  | some y =>
    rw [hf] at h
    refine ⟨y, rfl, fun r hr => ?_, fun s' hs => ?_⟩
    · subst hr; exact Option.some.inj h
    · subst hs; exact h
/-- the array classes: int[], byte[], long[], boolean[], int[][] -/
abbrev tyL (cy : Nat → ClassId) : List (ClassId × FieldType) := [(cy 0, .int), (cy 1, .byte), (cy 2, .long), (cy 3, .boolean), (cy 4, .array .int)]
abbrev rI (cy : Nat → ClassId) (n : Nat) (f : Nat → Int32) : va_E := .inl (cy 0, n, .inl f)
abbrev rB (cy : Nat → ClassId) (n : Nat) (f : Nat → Int32) : va_E := .inl (cy 1, n, .inl f)
abbrev rJ (cy : Nat → ClassId) (n : Nat) (f : Nat → Int64) : va_E := .inl (cy 2, n, .inr (.inl f))
abbrev rZ (cy : Nat → ClassId) (n : Nat) (f : Nat → Int32) : va_E := .inl (cy 3, n, .inl f)
abbrev rR (cy : Nat → ClassId) (n : Nat) (f : Nat → Option Nat) : va_E := .inl (cy 4, n, .inr (.inr (.inr (.inr f))))
/-- what the tables say of calls between nest mates -/
def nestL : List (String × Nat × MethodName) := [(RX1, 42, yX8_ringOfCell), (RX3, 11, yX6_init), (RX3, 30, yX8_ringOfCell), (RX4, 11, yX7_init), (RX4, 95, yX8_cellAt), (RX5, 226, yX8_cellAt), (RX6, 76, yX8_ringOfCell), (RX7, 42, yX8_ringOfCell), (RX8, 11, yX5_init), (RX8, 18, yX1_init), (RX8, 25, yX6_init), (RX8, 32, yX3_init), (RX8, 39, yX0_init)]
def kN (U : State) : Prop := ∀ q ∈ nestL, va_Nw (.methodLinkNest q.1 q.2.1 q.2.2 "NightRound") U
theorem kN.warm {s U : State} (hW : s.WarmedH U.vm) (h : kN s) : kN U := fun q hq => va_Nw.warmM hW (h q hq)
theorem kN.same {u U : State} (hv : u.vm = U.vm) (h : kN u) : kN U := fun q hq => va_Nw.same rfl hv (h q hq)
/-- a contract's start: the cells ws, the tables, the addresses apart -/
abbrev kU (D : va_G) (cy : Nat → ClassId) (ws : va_W) (sz : Nat) (U : State) : Prop := U.heap.size = sz ∧ va_P D vwCl ws U.heap ∧ va_K D vwCl (tyL cy) U ∧ va_D (fun _ => True) ws ∧ kN U
abbrev kPre (D : va_G) (cy : Nat → ClassId) (av : List Value) (ws : va_W) (sz : Nat) : Array Value → State → Prop := va_Pc av (kU D cy ws sz)
/-- its end: the cells ws2 -/
abbrev kB (D : va_G) (cy : Nat → ClassId) (A : Nat → Prop) (ws2 : va_W) : Unit → State → Prop := fun _ t => va_P D vwCl ws2 t.heap ∧ va_K D vwCl (tyL cy) t ∧ va_D A ws2
abbrev kQi (D : va_G) (cy : Nat → ClassId) (r : Int32) (A : Nat → Prop) (ws2 : va_W) : Array Value → State → Outcome → State → Prop := va_Qi (fun r' (_ : Unit) => r' = r) (kB D cy A ws2) A
abbrev kQl (D : va_G) (cy : Nat → ClassId) (r : Int64) (A : Nat → Prop) (ws2 : va_W) : Array Value → State → Outcome → State → Prop := va_Ql (fun r' (_ : Unit) => r' = r) (kB D cy A ws2) A
abbrev kQv (D : va_G) (cy : Nat → ClassId) (A : Nat → Prop) (ws2 : va_W) : Array Value → State → Outcome → State → Prop := va_Qv (fun (_ : Unit) => True) (kB D cy A ws2) A
theorem kU.blind {D : va_G} {cy : Nat → ClassId} {av : List Value} {ws : va_W} {sz : Nat} : FrameBlind (kPre D cy av ws sz) := fun a U g mk q => by
  obtain ⟨q0, q1, qP, qK, qD, qN⟩ := q
  exact ⟨q0, q1, qP, va_K.moved (u := U) (U := U.calling g mk a) (Vm.Alike.refl U.vm) qK, qD, kN.same (u := U) (U := U.calling g mk a) rfl qN⟩
def isCh (x : Int32) : Bool := decide ((x.toUInt32 % 65536).toInt32 = x)
def isBy (x : Int32) : Bool := decide (x.toInt8.toInt32 = x)
theorem isCh_nar {x : Int32} (h : isCh x = true) : narrow .char (.int x) = .int x := by
  have h1 : (x.toUInt32 % 65536).toInt32 = x := of_decide_eq_true h
  have h2 := pk_nc x
  rw [h1] at h2; exact h2
theorem isBy_nar {x : Int32} (h : isBy x = true) : narrow .byte (.int x) = .int x := by
  have h1 : x.toInt8.toInt32 = x := of_decide_eq_true h
  have h2 := pk_nb x
  rw [h1] at h2; exact h2
theorem okI_lt {i : Int32} {n : Nat} (h : okI i n = true) : i.toNatClampNeg < n := Nat.not_le.mp fun q => okI_in h (Or.inr q)
/-- the words of the texts: their lengths, their bytes; where the two classes' constant pools hold them -/
def sLenL : List Nat := [2, 5, 6, 2, 6, 4, 4, 5, 5, 2, 4, 6, 5, 4, 3, 5, 6, 5, 4, 4, 5, 4]
def sBytL : List (List Int32) := [[97, 116], [97, 116, 116, 105, 99], [98, 114, 111, 107, 101, 110], [98, 121], [99, 101, 108, 108, 97, 114], [100, 97, 109, 112], [100, 111, 111, 114], [102, 111, 117, 110, 100], [104, 111, 117, 115, 101], [105, 110], [108, 111, 115, 116], [110, 97, 114, 114, 111, 119], [110, 105, 103, 104, 116], [112, 97, 121, 115], [112, 101, 116], [112, 105, 97, 110, 111], [112, 108, 97, 99, 101, 115], [112, 108, 97, 105, 110], [114, 105, 110, 103], [115, 105, 122, 101], [116, 104, 105, 110, 103], [119, 97, 110, 116]]
def sLen (i : Nat) : Nat := sLenL.getD i 0
def sByt (i j : Nat) : Int32 := (sBytL.getD i []).getD j 0
def okS (i : Nat) : Bool := decide (i < 22)
theorem okS_lt {i : Nat} (h : okS i = true) : i < 22 := of_decide_eq_true h
def strL : List (String × Nat × String × Nat) := [(RX5, 102, "house", 8), (RX5, 104, "ring", 18), (RX5, 106, "narrow", 11), (RX5, 108, "door", 6), (RX5, 110, "thing", 20), (RX5, 112, "want", 21), (RX5, 114, "found", 7), (RX5, 115, "lost", 10), (RX5, 136, "plain", 17), (RX5, 138, "cellar", 4), (RX5, 140, "attic", 1), (RX5, 142, "piano", 15), (RX5, 144, "broken", 2), (RX5, 146, "pet", 14), (RX5, 197, "damp", 5), (RX5, 213, "places", 16), (RX5, 232, "by", 3), (RX5, 246, "in", 9), (RX5, 248, "at", 0), (RX5, 253, "size", 19), (RX5, 259, "night", 12), (RX5, 261, "pays", 13), (RX9, 113, "house", 8), (RX9, 115, "ring", 18), (RX9, 117, "narrow", 11), (RX9, 119, "door", 6), (RX9, 121, "thing", 20), (RX9, 123, "want", 21), (RX9, 125, "found", 7), (RX9, 127, "lost", 10), (RX9, 201, "cellar", 4), (RX9, 207, "damp", 5), (RX9, 212, "plain", 17), (RX9, 214, "attic", 1), (RX9, 216, "places", 16), (RX9, 224, "by", 3), (RX9, 226, "piano", 15), (RX9, 228, "broken", 2), (RX9, 230, "pet", 14), (RX9, 232, "in", 9), (RX9, 233, "at", 0), (RX9, 234, "size", 19), (RX9, 235, "night", 12), (RX9, 237, "pays", 13)]
def kSt (ad : (Nat → Nat) × (Nat → Nat)) (A : Nat → Prop) (U : State) (H : Heap) : Prop := vk_S 22 sLenL sBytL ad.1 ad.2 A U H ∧ (∀ q ∈ strL, vk_R q.1 q.2.1 q.2.2.1 (ad.1 q.2.2.2) U) ∧ va_Z "java/lang/String" "COMPACT_STRINGS" "Z" (.int 1) A U H ∧ va_Zq "jdk/internal/util/Preconditions" "SIOOBE_FORMATTER" "Ljava/util/function/BiFunction;" A U H
theorem kZq {C n d : String} {A : Nat → Prop} {U : State} {H : Heap} (h : va_Zq C n d A U H) : ∃ v : Value, (v = .null ∨ ∃ q, v = .ref q) ∧ va_Z C n d v A U H := by
  rcases h with h | ⟨t, h⟩
  · exact ⟨_, Or.inl rfl, h⟩
  · exact ⟨_, Or.inr ⟨t, rfl⟩, h⟩
theorem kSt.at {ad : (Nat → Nat) × (Nat → Nat)} {A B : Nat → Prop} {s U : State} {H : Heap} {locs : List Loc} (h : kSt ad A s s.heap) (hS : va_S A s.heap H locs) (hB : ∀ q, B q → A q) (hW : s.WarmedH U.vm) : kSt ad B U H :=
  ⟨((h.1.kept hS.2.1).narrow hB).moved hW.alike, fun q hq => (h.2.1 q hq).warm hW, ((h.2.2.1.kept hS.2.1).narrow hB).moved hW.alike, ((h.2.2.2.kept hS.2.1).narrow hB).moved hW.alike⟩
abbrev kPreS (D : va_G) (cy : Nat → ClassId) (ad : (Nat → Nat) × (Nat → Nat)) (av : List Value) (ws : va_W) (sz : Nat) (A : Nat → Prop) : Array Value → State → Prop := va_Pc av (fun U => kU D cy ws sz U ∧ kSt ad A U U.heap)
theorem kPreS.blind {D : va_G} {cy : Nat → ClassId} {ad : (Nat → Nat) × (Nat → Nat)} {av : List Value} {ws : va_W} {sz : Nat} {A : Nat → Prop} : FrameBlind (kPreS D cy ad av ws sz A) := fun a U g mk q => by
  obtain ⟨q0, ⟨q1, qP, qK, qD, qN⟩, qS⟩ := q
  have hA : U.vm.Alike (U.calling g mk a).vm := Vm.Alike.refl U.vm
  exact ⟨q0, ⟨q1, qP, va_K.moved (u := U) (U := U.calling g mk a) hA qK, qD, kN.same (u := U) (U := U.calling g mk a) rfl qN⟩, qS.1.moved hA, fun w hw => vk_R.same (u := U) (U := U.calling g mk a) rfl (qS.2.1 w hw), qS.2.2.1.moved hA, qS.2.2.2.moved hA⟩
abbrev kQr (D : va_G) (cy : Nat → ClassId) (ra : Nat) (A : Nat → Prop) (ws2 : va_W) : Array Value → State → Outcome → State → Prop := va_Qr (fun (_ : Unit) => True) (fun _ a t => a = ra ∧ va_P D vwCl ws2 t.heap ∧ va_K D vwCl (tyL cy) t ∧ va_D A ws2) A
section KC
variable {p : Program} {l : Launch} {e : Env} {R : Room} {s : State} {m : MethodId} {args : Array Value} {below : List Frame} {meth : Method} {c : Code} {H H0 : Heap} {locs : List Loc} {cells slots : Nat} {Q : State → Prop}
variable {y : MethodName} {bytes cc : ByteArray} {maxL nL mc ms n index : Nat} {ret : Option FieldType} {wsy : List Cond} {rm : Room} {Qc : Array Value → State → Outcome → State → Prop} {free : Addr → Prop} {Ts : List Cond} {own C host : String} {b : Addr} {As rest st0 : List Value} {pc : Nat} {ls : Array Slot}
variable {D : va_G} {cy : Nat → ClassId} {A : Nat → Prop} {ws wc wc2 wr ws2 : va_W}
theorem kStart (hK : va_K D vwCl (tyL cy) s) (hN : kN s) (hP : va_P D vwCl ws H) (hD : va_D A ws) (isC : List Nat) (hC : isC.map (fun i => ws[i]?) = wc.map some) (hnd : va_nd isC = true) : ∀ U : State, U.heap = H → s.WarmedH U.vm → kU D cy wc H.size U := fun U hU hW => by
  have hs : isC.filterMap (fun i => ws[i]?) = wc := by
    have h2 : ∀ (is : List Nat) (w : va_W), is.map (fun i => ws[i]?) = w.map some → is.filterMap (fun i => ws[i]?) = w := by
      intro is
      induction is with
      | nil => intro w hw; cases w with
        | nil => rfl
        | cons a w => cases hw
      | cons i is ih => intro w hw; cases w with
        | nil => cases hw
        | cons a w =>
          rw [List.map_cons, List.map_cons] at hw
          obtain ⟨h1, h2⟩ := List.cons.inj hw
          rw [List.filterMap_cons, h1, ih w h2]
    exact h2 isC wc hC
  exact ⟨by rw [hU], by rw [hU]; exact hP.sub isC hs, va_K.moved hW.alike hK, (hD.sub isC hnd hC).weaken (fun _ _ _ _ => trivial), hN.warm hW⟩
theorem kRunV (S : CallFix p m c cc nL s args Ts own) (hM : Met l y wsy rm (kPre D cy (.ref b :: As) wc H.size) Qc mc ms free) (cw : CallW R s args own C index y bytes maxL ret wsy rm mc ms n) (hK : va_K D vwCl (tyL cy) s) (hN : kN s) (hP : va_P D vwCl ws H) (hD : va_D A ws) (isC : List Nat) (hC : isC.map (fun i => ws[i]?) = wc.map some) (hnd : va_nd isC = true)
    (q0 ci : Nat) {T : u_T} {N : Nat} {fs : List Value} (he : ws[q0]? = some (b, .inr (ci, fs))) (hc : vwCl[ci]? = some (C, T, N)) (hn : As.length = n) (hsize : ls.size = nL) (hst : st0 = As.reverse ++ .ref b :: rest) (hW : (rest.map fun v => v.category).sum ≤ 8) (hdg : decode cc pc = .ok (.invokevirtual index, 3)) (hf : cells + mc ≤ R.cells ∧ slots + ms ≤ R.slots) :
    va_Run p l e R s m args below meth c H locs cells slots mc ms (F0 m pc ls st0) rest (Qc (Value.ref b :: As).toArray) free :=
  va_runV S hM cw ⟨kU.blind, va_recv hK hP hc he, fun U hU hW => ⟨rfl, kStart hK hN hP hD isC hC hnd U hU hW⟩⟩ rfl hn hsize hst (lv_room hW) hdg hf
theorem kRunS (S : CallFix p m c cc nL s args Ts own) (hM : Met l y wsy rm (kPre D cy As wc H.size) Qc mc ms free) (cw : CallB R s args own index y bytes maxL ret wsy rm mc ms n ∧ (Cond.static y).before args s = true) (hK : va_K D vwCl (tyL cy) s) (hN : kN s) (hP : va_P D vwCl ws H) (hD : va_D A ws) (isC : List Nat) (hC : isC.map (fun i => ws[i]?) = wc.map some) (hnd : va_nd isC = true)
    (hn : As.length = n) (hsize : ls.size = nL) (hst : st0 = As.reverse ++ rest) (hW : (rest.map fun v => v.category).sum ≤ 8) (hdg : decode cc pc = .ok (.invokestatic index, 3)) (hf : cells + mc ≤ R.cells ∧ slots + ms ≤ R.slots) :
    va_Run p l e R s m args below meth c H locs cells slots mc ms (F0 m pc ls st0) rest (Qc As.toArray) free :=
  va_runS S hM cw ⟨kU.blind, fun U hU hW => ⟨rfl, kStart hK hN hP hD isC hC hnd U hU hW⟩⟩ rfl hn hsize hst (lv_room hW) hdg hf
theorem kRunSN (S : CallFix p m c cc nL s args Ts own) (hM : Met l y wsy rm (kPre D cy As wc H.size) Qc mc ms free) (cw : va_CN R s args own index y host bytes maxL ret wsy rm mc ms n ∧ (Cond.static y).before args s = true ∧ True) (hK : va_K D vwCl (tyL cy) s) (hN : kN s) (hP : va_P D vwCl ws H) (hD : va_D A ws) (isC : List Nat) (hC : isC.map (fun i => ws[i]?) = wc.map some) (hnd : va_nd isC = true)
    (hn : As.length = n) (hsize : ls.size = nL) (hst : st0 = As.reverse ++ rest) (hW : (rest.map fun v => v.category).sum ≤ 8) (hdg : decode cc pc = .ok (.invokestatic index, 3)) (hf : cells + mc ≤ R.cells ∧ slots + ms ≤ R.slots) :
    va_Run p l e R s m args below meth c H locs cells slots mc ms (F0 m pc ls st0) rest (Qc As.toArray) free :=
  va_runSN S hM cw ⟨kU.blind, fun U hU hW => ⟨rfl, kStart hK hN hP hD isC hC hnd U hU hW⟩⟩ rfl hn hsize hst (lv_room hW) hdg hf
theorem kAft {t : State} {H1 : Heap} (hP : va_P D vwCl ws H) (hD : va_D A ws) (isC isR : List Nat) (hC : isC.map (fun i => ws[i]?) = wc.map some) (hR : isR.map (fun i => ws[i]?) = wr.map some) (hn : va_nd isR = true) (hdis : ∀ i ∈ isR, i ∉ isC) (hF : ∀ q, va_A wc H.size q → A q) (ht : t.heap = H1) (hB : kB D cy (va_A wc H.size) wc2 () t) (hk : ∀ q : Nat, q < H.size → ¬ va_A wc H.size q → H1[q]? = H[q]?) (is : List Nat) (hnd : va_nd is = true) (hs1 : is.map (fun i => (wr ++ wc2)[i]?) = ws2.map some) (hs2 : is.filterMap (fun i => (wr ++ wc2)[i]?) = ws2) : va_P D vwCl ws2 H1 ∧ va_D A ws2 := by
  obtain ⟨hP1, hK1, hD1⟩ := hB
  rw [ht] at hP1
  obtain ⟨hP2, hD2⟩ := va_join hP hD isC isR hC hR hn hdis hk hF hP1 hD1
  exact ⟨hP2.sub is hs2, hD2.sub is hnd hs1⟩
theorem kCi {a : Array Value} {r : Int32} (hr : va_Run p l e R s m args below meth c H locs cells slots mc ms (F0 m pc ls st0) rest (kQi D cy r (va_A wc H.size) wc2 a) (va_A wc H.size)) (hP : va_P D vwCl ws H) (hD : va_D A ws) (hS : va_S A H0 H locs) (hA : ∀ q, H0.size ≤ q → A q) (isC isR : List Nat) (hC : isC.map (fun i => ws[i]?) = wc.map some) (hR : isR.map (fun i => ws[i]?) = wr.map some) (hn : va_nd isR = true) (hdis : ∀ i ∈ isR, i ∉ isC) (is : List Nat) (hnd : va_nd is = true) (hs1 : is.map (fun i => (wr ++ wc2)[i]?) = ws2.map some) (hs2 : is.filterMap (fun i => (wr ++ wc2)[i]?) = ws2)
    (kk : ∀ (H1 : Heap) (locs1 : List Loc), va_P D vwCl ws2 H1 → va_D A ws2 → va_S A H0 H1 locs1 → W p l e R s m args below meth c H1 locs1 (cells + mc) (slots + ms) Q (F0 m (pc + 3) ls (.int r :: rest))) : W p l e R s m args below meth c H locs cells slots Q (F0 m pc ls st0) := by
  have hF := va_free (wc := wc) hD hS hA isC hC
  refine va_calli hr hS (fun q _ h => hF q h) hF (fun r' u t H1 locs1 ht hvm hw hB hz1 hk1 hS1 => ?_)
  subst hw
  obtain ⟨hP2, hD2⟩ := kAft hP hD isC isR hC hR hn hdis hF ht hB hk1 is hnd hs1 hs2
  exact kk H1 locs1 hP2 hD2 hS1
theorem kCl {a : Array Value} {r : Int64} (hr : va_Run p l e R s m args below meth c H locs cells slots mc ms (F0 m pc ls st0) rest (kQl D cy r (va_A wc H.size) wc2 a) (va_A wc H.size)) (hP : va_P D vwCl ws H) (hD : va_D A ws) (hS : va_S A H0 H locs) (hA : ∀ q, H0.size ≤ q → A q) (isC isR : List Nat) (hC : isC.map (fun i => ws[i]?) = wc.map some) (hR : isR.map (fun i => ws[i]?) = wr.map some) (hn : va_nd isR = true) (hdis : ∀ i ∈ isR, i ∉ isC) (is : List Nat) (hnd : va_nd is = true) (hs1 : is.map (fun i => (wr ++ wc2)[i]?) = ws2.map some) (hs2 : is.filterMap (fun i => (wr ++ wc2)[i]?) = ws2)
    (kk : ∀ (H1 : Heap) (locs1 : List Loc), va_P D vwCl ws2 H1 → va_D A ws2 → va_S A H0 H1 locs1 → W p l e R s m args below meth c H1 locs1 (cells + mc) (slots + ms) Q (F0 m (pc + 3) ls (.long r :: rest))) : W p l e R s m args below meth c H locs cells slots Q (F0 m pc ls st0) := by
  have hF := va_free (wc := wc) hD hS hA isC hC
  refine va_calll hr hS (fun q _ h => hF q h) hF (fun r' u t H1 locs1 ht hvm hw hB hz1 hk1 hS1 => ?_)
  subst hw
  obtain ⟨hP2, hD2⟩ := kAft hP hD isC isR hC hR hn hdis hF ht hB hk1 is hnd hs1 hs2
  exact kk H1 locs1 hP2 hD2 hS1
theorem kCv {a : Array Value} (hr : va_Run p l e R s m args below meth c H locs cells slots mc ms (F0 m pc ls st0) rest (kQv D cy (va_A wc H.size) wc2 a) (va_A wc H.size)) (hP : va_P D vwCl ws H) (hD : va_D A ws) (hS : va_S A H0 H locs) (hA : ∀ q, H0.size ≤ q → A q) (isC isR : List Nat) (hC : isC.map (fun i => ws[i]?) = wc.map some) (hR : isR.map (fun i => ws[i]?) = wr.map some) (hn : va_nd isR = true) (hdis : ∀ i ∈ isR, i ∉ isC) (is : List Nat) (hnd : va_nd is = true) (hs1 : is.map (fun i => (wr ++ wc2)[i]?) = ws2.map some) (hs2 : is.filterMap (fun i => (wr ++ wc2)[i]?) = ws2)
    (kk : ∀ (H1 : Heap) (locs1 : List Loc), va_P D vwCl ws2 H1 → va_D A ws2 → va_S A H0 H1 locs1 → W p l e R s m args below meth c H1 locs1 (cells + mc) (slots + ms) Q (F0 m (pc + 3) ls rest)) : W p l e R s m args below meth c H locs cells slots Q (F0 m pc ls st0) := by
  have hF := va_free (wc := wc) hD hS hA isC hC
  refine va_callv hr hS (fun q _ h => hF q h) hF (fun u t H1 locs1 ht hvm hw hB hz1 hk1 hS1 => ?_)
  obtain ⟨hP2, hD2⟩ := kAft hP hD isC isR hC hR hn hdis hF ht hB hk1 is hnd hs1 hs2
  exact kk H1 locs1 hP2 hD2 hS1
theorem kFree (hD : va_D A ws) (hS : va_S A H0 H locs) (hA : ∀ q, H0.size ≤ q → A q) (isC : List Nat) (hC : isC.map (fun i => ws[i]?) = wc.map some) : ∀ q, va_A wc H.size q → A q := va_free (wc := wc) hD hS hA isC hC
theorem kRunVS {ad : (Nat → Nat) × (Nat → Nat)} (S : CallFix p m c cc nL s args Ts own) (hM : Met l y wsy rm (kPreS D cy ad (.ref b :: As) wc H.size (va_A wc H.size)) Qc mc ms free) (cw : CallW R s args own C index y bytes maxL ret wsy rm mc ms n) (hK : va_K D vwCl (tyL cy) s) (hN : kN s) (hP : va_P D vwCl ws H) (hD : va_D A ws) (hSt : kSt ad A s s.heap) (hS : va_S A s.heap H locs) (hA : ∀ q, s.heap.size ≤ q → A q) (isC : List Nat) (hC : isC.map (fun i => ws[i]?) = wc.map some) (hnd : va_nd isC = true)
    (q0 ci : Nat) {T : u_T} {N : Nat} {fs : List Value} (he : ws[q0]? = some (b, .inr (ci, fs))) (hc : vwCl[ci]? = some (C, T, N)) (hn : As.length = n) (hsize : ls.size = nL) (hst : st0 = As.reverse ++ .ref b :: rest) (hW : (rest.map fun v => v.category).sum ≤ 8) (hdg : decode cc pc = .ok (.invokevirtual index, 3)) (hf : cells + mc ≤ R.cells ∧ slots + ms ≤ R.slots) :
    va_Run p l e R s m args below meth c H locs cells slots mc ms (F0 m pc ls st0) rest (Qc (Value.ref b :: As).toArray) free :=
  va_runV S hM cw ⟨kPreS.blind, va_recv hK hP hc he, fun U hU hW => ⟨rfl, kStart hK hN hP hD isC hC hnd U hU hW, by rw [hU]; exact hSt.at hS (kFree hD hS hA isC hC) hW⟩⟩ rfl hn hsize hst (lv_room hW) hdg hf
theorem kRunVT {ad : (Nat → Nat) × (Nat → Nat)} {i : Nat} (S : CallFix p m c cc nL s args Ts own) (hM : Met l y wsy rm (kPreS D cy ad (.ref (ad.1 i) :: As) wc H.size (va_A wc H.size)) Qc mc ms free) (cw : CallW R s args own "java/lang/String" index y bytes maxL ret wsy rm mc ms n) (hK : va_K D vwCl (tyL cy) s) (hN : kN s) (hP : va_P D vwCl ws H) (hD : va_D A ws) (hSt : kSt ad A s s.heap) (hS : va_S A s.heap H locs) (hA : ∀ q, s.heap.size ≤ q → A q) (isC : List Nat) (hC : isC.map (fun i => ws[i]?) = wc.map some) (hnd : va_nd isC = true)
    (hi : i < 22) (hn : As.length = n) (hsize : ls.size = nL) (hst : st0 = As.reverse ++ .ref (ad.1 i) :: rest) (hW : (rest.map fun v => v.category).sum ≤ 8) (hdg : decode cc pc = .ok (.invokevirtual index, 3)) (hf : cells + mc ≤ R.cells ∧ slots + ms ≤ R.slots) :
    va_Run p l e R s m args below meth c H locs cells slots mc ms (F0 m pc ls st0) rest (Qc (Value.ref (ad.1 i) :: As).toArray) free :=
  va_runV S hM cw ⟨kPreS.blind, vk_recv hSt.1 hi hS, fun U hU hW => ⟨rfl, kStart hK hN hP hD isC hC hnd U hU hW, by rw [hU]; exact hSt.at hS (kFree hD hS hA isC hC) hW⟩⟩ rfl hn hsize hst (lv_room hW) hdg hf
theorem kRunSS {ad : (Nat → Nat) × (Nat → Nat)} (S : CallFix p m c cc nL s args Ts own) (hM : Met l y wsy rm (kPreS D cy ad As wc H.size (va_A wc H.size)) Qc mc ms free) (cw : CallB R s args own index y bytes maxL ret wsy rm mc ms n ∧ (Cond.static y).before args s = true) (hK : va_K D vwCl (tyL cy) s) (hN : kN s) (hP : va_P D vwCl ws H) (hD : va_D A ws) (hSt : kSt ad A s s.heap) (hS : va_S A s.heap H locs) (hA : ∀ q, s.heap.size ≤ q → A q) (isC : List Nat) (hC : isC.map (fun i => ws[i]?) = wc.map some) (hnd : va_nd isC = true)
    (hn : As.length = n) (hsize : ls.size = nL) (hst : st0 = As.reverse ++ rest) (hW : (rest.map fun v => v.category).sum ≤ 8) (hdg : decode cc pc = .ok (.invokestatic index, 3)) (hf : cells + mc ≤ R.cells ∧ slots + ms ≤ R.slots) :
    va_Run p l e R s m args below meth c H locs cells slots mc ms (F0 m pc ls st0) rest (Qc As.toArray) free :=
  va_runS S hM cw ⟨kPreS.blind, fun U hU hW => ⟨rfl, kStart hK hN hP hD isC hC hnd U hU hW, by rw [hU]; exact hSt.at hS (kFree hD hS hA isC hC) hW⟩⟩ rfl hn hsize hst (lv_room hW) hdg hf
theorem kCr {a : Array Value} {r : Nat} (hr : va_Run p l e R s m args below meth c H locs cells slots mc ms (F0 m pc ls st0) rest (kQr D cy r (va_A wc H.size) wc2 a) (va_A wc H.size)) (hP : va_P D vwCl ws H) (hD : va_D A ws) (hS : va_S A H0 H locs) (hA : ∀ q, H0.size ≤ q → A q) (isC isR : List Nat) (hC : isC.map (fun i => ws[i]?) = wc.map some) (hR : isR.map (fun i => ws[i]?) = wr.map some) (hn : va_nd isR = true) (hdis : ∀ i ∈ isR, i ∉ isC) (is : List Nat) (hnd : va_nd is = true) (hs1 : is.map (fun i => (wr ++ wc2)[i]?) = ws2.map some) (hs2 : is.filterMap (fun i => (wr ++ wc2)[i]?) = ws2)
    (kk : ∀ (H1 : Heap) (locs1 : List Loc), va_P D vwCl ws2 H1 → va_D A ws2 → va_S A H0 H1 locs1 → W p l e R s m args below meth c H1 locs1 (cells + mc) (slots + ms) Q (F0 m (pc + 3) ls (.ref r :: rest))) : W p l e R s m args below meth c H locs cells slots Q (F0 m pc ls st0) := by
  have hF := va_free (wc := wc) hD hS hA isC hC
  refine va_callr hr hS (fun q _ h => hF q h) hF (fun u ra t H1 locs1 ht hvm hw hB hz1 hk1 hS1 => ?_)
  obtain ⟨hra, hB⟩ := hB
  subst hra
  obtain ⟨hP2, hD2⟩ := kAft hP hD isC isR hC hR hn hdis hF ht hB hk1 is hnd hs1 hs2
  exact kk H1 locs1 hP2 hD2 hS1
theorem va_aldA {tys : List (ClassId × FieldType)} {cl : List vw_C} {a : Nat} (hexec : p.tables.exec = Jvm.exec) (hb : c.code = cc) (hK : va_K D cl tys s) (hP : va_P D cl ws H) (q0 t0 : Nat) {cA : ClassId} {n : Nat} {f : Nat → Nat} (ha : ws[q0]? = some (a, .inl (cA, n, .inr (.inr (.inr (.inr (fun j => some (f j)))))))) (ht : tys[t0]? = some (cA, .array .int)) {i : Int32} (hin : vp_in i n) (hdg : decode cc pc = .ok (.aaload, 1))
    (kk : W p l e R s m args below meth c H locs cells slots Q (F0 m (pc + 1) ls (.ref (f i.toNatClampNeg) :: rest))) : W p l e R s m args below meth c H locs cells slots Q (F0 m pc ls (.int i :: .ref a :: rest)) := by
  have hlt : i.toNatClampNeg < n := Nat.not_le.mp fun q => hin (Or.inr q)
  exact W.aald (v := .ref (f i.toNatClampNeg)) (ty := .array .int) hexec hb (hP q0 _ ha) ((hK.2 t0 _ ht).1 n (fun j => va_rf (some (f j)))) rfl (fun q => by cases q) (by show ¬ (i < 0 ∨ (arrV _ _ _).slots.size ≤ _); rw [arrV_size]; exact hin) (by show (arrV _ _ _).slots[_]? = _; rw [arrV_read _ _ hlt]; rfl) rfl rfl hdg kk
theorem va_ldcSwX {T : State} (X : Stand p l e R s m args below meth c T locs cells slots) (hexec : p.tables.exec = Jvm.exec) {own text : String} {index : Nat} {a : Addr} (hown : s.vm.findClass own = some m.cls)
    (hconst : (Cond.stringRef own index text).before #[] s = true) (hev : (Term.string own index).eval #[] s none [] s = some (.ref a)) {g : JFrame} (hg : g.method = m) (hdg : decode c.code g.pc = .ok (.ldc_w index, 3)) :
    ∀ target, Steps p.tables e below (T.setTop { g with pc := g.pc + 3, stack := .ref a :: g.stack }) target → Steps p.tables e below (T.setTop g) target := by
  obtain ⟨k, cf, i, a', hk, hcf, hcp, -, hr, hev'⟩ := Cond.stringRef_spec hown hconst
  cases hev.symm.trans hev'
  obtain ⟨k', hk', he⟩ := X.warmed.alike.2.2 _ _ hk
  have hr' : k'.resolved[index]? = some (some (.string a)) := by
    rcases X.warmed.entry hk hk' index with h | ⟨h, -⟩
    · rw [h]; exact hr
    · rw [hr] at h; cases h
  intro target hrest
  subst hg
  jvm_step X.here [hexec, hdg, ldc_w.wp_string (e := e) (s := T) (f := g) X.here.top hk' (by rw [he]; exact hcf) hcp hr']
  exact hrest
theorem va_ldcSw (hexec : p.tables.exec = Jvm.exec) (hb : c.code = cc) {tx : String} {q : Nat} (hown : s.vm.findClass own = some m.cls) (hZ : vk_R own index tx q s) (hdg : decode cc pc = .ok (.ldc_w index, 3))
    (k : W p l e R s m args below meth c H locs cells slots Q (F0 m (pc + 3) ls (.ref q :: rest))) : W p l e R s m args below meth c H locs cells slots Q (F0 m pc ls rest) := by
  intro T hT X
  obtain ⟨t, a1, b1⟩ := k T hT X
  exact ⟨t, va_ldcSwX X hexec hown (text := tx) (a := q) hZ.1 hZ.2 (g := F0 m pc ls rest) rfl (by rw [hb]; exact hdg) t a1, b1⟩
end KC
abbrev oX0 (v : Nat → Int32) (q : Nat → Nat) : va_E := .inr (0, [.ref (q 0), .ref (q 1), .int (v 2), .int (v 3), .int (v 4), .int (v 5)])
abbrev oX1 (v : Nat → Int32) (q : Nat → Nat) : va_E := .inr (1, [.ref (q 0), .ref (q 1), .ref (q 2), .int (v 3), .int (v 4), .int (v 5)])
abbrev oX3 (v : Nat → Int32) (q : Nat → Nat) : va_E := .inr (2, [.ref (q 0)])
abbrev oX4 (v : Nat → Int32) (q : Nat → Nat) : va_E := .inr (3, [.int (v 0), .int (v 1), .int (v 2), .int (v 3), .int (v 4), .int (v 5), .int (v 6), .ref (q 7), .ref (q 8), .ref (q 9), .ref (q 10), .ref (q 11), .ref (q 12), .ref (q 13), .ref (q 14), .ref (q 15), .ref (q 16), .ref (q 17), .ref (q 18), .ref (q 19)])
abbrev oX5 (v : Nat → Int32) (q : Nat → Nat) (j11 : Int64) (a2 : Nat) : va_E := .inr (4, [.ref (q 0), .int (v 1), .ref a2, .ref (q 3), .ref (q 4), .int (v 5), .int (v 6), .int (v 7), .int (v 8), .int (v 9), .int (v 10), .long j11, .int (v 12)])
abbrev oX6 (v : Nat → Int32) (q : Nat → Nat) (a4 : Nat) : va_E := .inr (5, [.ref (q 0), .ref (q 1), .ref (q 2), .ref (q 3), .ref a4, .int (v 5), .int (v 6), .int (v 7), .int (v 8), .int (v 9), .int (v 10), .int (v 11), .int (v 12)])
abbrev oX7 (v : Nat → Int32) (q : Nat → Nat) : va_E := .inr (6, [.int (v 0), .ref (q 1), .ref (q 2), .ref (q 3), .ref (q 4)])
abbrev oX8 (v : Nat → Int32) (q : Nat → Nat) (a5 : Nat) : va_E := .inr (7, [.ref (q 0), .ref (q 1), .ref (q 2), .ref (q 3), .ref (q 4), .ref a5, .int (v 6), .int (v 7), .int (v 8)])
abbrev oX9 (v : Nat → Int32) (q : Nat → Nat) : va_E := .inr (8, [.int (v 0), .ref (q 1), .int (v 2), .int (v 3), .int (v 4), .int (v 5), .int (v 6), .int (v 7), .int (v 8), .int (v 9), .int (v 10), .int (v 11), .ref (q 12), .int (v 13), .int (v 14), .ref (q 15), .ref (q 16), .ref (q 17), .ref (q 18), .ref (q 19), .int (v 20), .int (v 21), .ref (q 22), .ref (q 23), .ref (q 24), .int (v 25), .int (v 26), .int (v 27), .int (v 28)])
