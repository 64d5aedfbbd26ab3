/-! rows for making: arrays of the known classes, arrays of arrays, constructors -/
theorem ct10_ex : ∃ w, fJ7_fill_53178 36 (fun _ => 0) 10 = some w := by
  obtain ⟨w, hw, -⟩ := c_fill (n0 := 36) (p0 := fun _ => 0) 10 (by decide)
  exact ⟨w, hw⟩
def ct10 : Nat → Int32 := (fJ7_fill_53178 36 (fun _ => 0) 10).getD (fun _ => 0)
theorem ct10_ok : fJ7_fill_53178 36 (fun _ => 0) 10 = some ct10 := by
  obtain ⟨w, hw⟩ := ct10_ex
  rw [ct10, hw]; rfl
theorem arrV_cg (cI : ClassId) {N : Nat} {f g : Nat → Value} (h : ∀ j, j < N → f j = g j) : arrV cI N f = arrV cI N g := by
  unfold arrV
  have e : (fun j : Fin N => f j.val) = (fun j : Fin N => g j.val) := funext fun j => h j.val j.isLt
  rw [e]
theorem va_D_fst {A : Nat → Prop} {w1 w2 : va_W} (h : w1.map (fun x => x.1) = w2.map (fun x => x.1)) (hD : va_D A w1) : va_D A w2 := by
  have key : ∀ (i : Nat) (p : Nat × va_E), w2[i]? = some p → ∃ p', w1[i]? = some p' ∧ p'.1 = p.1 := by
    intro i p hp
    have h1 : (w2.map (fun x => x.1))[i]? = some p.1 := by rw [List.getElem?_map, hp]; rfl
    rw [← h, List.getElem?_map] at h1
    cases hw : w1[i]? with
    | none => rw [hw] at h1; cases h1
    | some p' => rw [hw] at h1; exact ⟨p', rfl, Option.some.inj h1⟩
  refine ⟨fun i j p q hi hj e => ?_, fun k q hk => ?_⟩
  · obtain ⟨p', h1, e1⟩ := key i p hi
    obtain ⟨q', h2, e2⟩ := key j q hj
    exact hD.1 i j p' q' h1 h2 (by rw [e1, e2]; exact e)
  · obtain ⟨q', h1, e1⟩ := key k q hk
    rw [← e1]; exact hD.2 k q' h1
theorem va_P_left {D : va_G} {cl : List vw_C} {w1 w2 : va_W} {H : Heap} (h : va_P D cl (w1 ++ w2) H) : va_P D cl w1 H := fun k x hx => h k x (by rw [List.getElem?_append_left (List.getElem?_eq_some_iff.mp hx).1]; exact hx)
theorem va_P_right {D : va_G} {cl : List vw_C} {w1 w2 : va_W} {H : Heap} (h : va_P D cl (w1 ++ w2) H) : va_P D cl w2 H := fun k x hx => h (w1.length + k) x (by rw [List.getElem?_append_right (Nat.le_add_right _ _), Nat.add_sub_cancel_left]; exact hx)
theorem kRA5 {s : State} {D : va_G} {cy : Nat → ClassId} {cA : ClassId} {ty : FieldType} {t0 : Nat} (hK : va_K D vwCl (tyL cy) s) (hK1 : va_K D vwCl (tyL cy ++ [(cA, ty)]) s) (ht : (tyL cy)[t0]? = some (cy t0, ty)) (hr : ∀ c, va_RA s c ty → s.vm.findClass ("[" ++ ty.toString) = some c) : cA = cy t0 := by
  have h1 := hr _ (hK1.2 5 (cA, ty) rfl).2
  have h2 := hr _ (hK.2 t0 _ ht).2
  exact Option.some.inj (h1.symm.trans h2)
abbrev kQn (D : va_G) (cy : Nat → ClassId) (A : Nat → Prop) (ws2 : (Nat → Nat → Nat) → va_W) : Array Value → State → Outcome → State → Prop := va_Qv (fun (_ : Nat → Nat → Nat) => True) (fun u t => kB D cy A (ws2 u) () t) A
theorem va_AOA.mv {u U : State} (hvm : u.vm.Alike U.vm) (h : va_AOA .int u) : va_AOA .int U := over_moved hvm h
abbrev kPreA (D : va_G) (cy : Nat → ClassId) (av : List Value) (ws : va_W) (sz : Nat) : Array Value → State → Prop := va_Pc av (fun U => kU D cy ws sz U ∧ va_AOA .int U)
theorem kPreA.blind {D : va_G} {cy : Nat → ClassId} {av : List Value} {ws : va_W} {sz : Nat} : FrameBlind (kPreA D cy av ws sz) := fun a U g mk q => by
  obtain ⟨q0, ⟨q1, qP, qK, qD, qN⟩, qO⟩ := q
  exact ⟨q0, ⟨q1, qP, va_K.moved (u := U) (U := U.calling g mk a) (Vm.Alike.refl U.vm) qK, qD, kN.same (u := U) (U := U.calling g mk a) rfl qN⟩, va_AOA.mv (u := U) (U := U.calling g mk a) (Vm.Alike.refl U.vm) qO⟩
section KM
variable {p : Program} {l : Launch} {e : Env} {R : Room} {s : State} {m : MethodId} {args : Array Value} {below : List Frame} {meth : Method} {c : Code} {H H0 : Heap} {locs : List Loc} {cells slots : Nat} {Q : State → Prop}
variable {y : MethodName} {bytes cc : ByteArray} {maxL nL mc ms n index : Nat} {ret : Option FieldType} {wsy : List Cond} {rm : Room} {Qc : Array Value → State → Outcome → State → Prop} {free : Addr → Prop} {Ts : List Cond} {own C host : String} {b : Addr} {As rest st0 : List Value} {pc : Nat} {ls : Array Slot}
variable {D : va_G} {cy : Nat → ClassId} {A : Nat → Prop} {ws wc wc2 wr ws2 : va_W}
theorem kNewa {t0 : Nat} {atype : ArrayType} {ty : FieldType} (hexec : p.tables.exec = Jvm.exec) (hb : c.code = cc) (harr : (Cond.arrayClass ty).before args s = true) (hty : newarray.typeOf atype = ty) (ht : (tyL cy)[t0]? = some (cy t0, ty)) (hr : ∀ c, va_RA s c ty → s.vm.findClass ("[" ++ ty.toString) = some c) (hK : va_K D vwCl (tyL cy) s) (hP : va_P D vwCl ws H) (hD : va_D A ws) (hS : va_S A H0 H locs) (hA : ∀ q, H0.size ≤ q → A q)
    {n : Int32} {N' : Nat} {a0 : vp_A} (ha : ∀ cA : ClassId, vp_cell cA a0 = arrV cA N' (fun _ => defaultValue ty)) (hn : ¬ n < 0) (hN : n.toNatClampNeg = N') (hbytes : N' * componentBytes ty ≤ 536870912) (hcells : cells + 1 ≤ R.cells) (hslots : slots + N' ≤ R.slots) (hdg : decode cc pc = .ok (.newarray atype, 2))
    (kk : ∀ (q : Nat) (H1 : Heap), va_P D vwCl (ws ++ [(q, .inl (cy t0, a0))]) H1 → va_D A (ws ++ [(q, .inl (cy t0, a0))]) → va_S A H0 H1 locs →
      W p l e R s m args below meth c H1 locs (cells + 1) (slots + N') Q (F0 m (pc + 2) ls (.ref q :: rest))) : W p l e R s m args below meth c H locs cells slots Q (F0 m pc ls (.int n :: rest)) := by
  subst hty
  refine va_newa hexec hb harr rfl hK hP hD hS hA ha hn hN hbytes hcells hslots hdg (fun q cA H1 hK1 hP1 hD1 hS1 => ?_)
  have e := kRA5 hK hK1 ht hr
  subst e
  exact kk q H1 hP1 hD1 hS1
theorem kMna {n k : Int32} {N' K' : Nat} (hexec : p.tables.exec = Jvm.exec) (hb : c.code = cc) (hown : s.vm.findClass own = some m.cls) (hclink : (Cond.classLink own index "[[I").before args s = true) (hover : va_AOA .int s) (harr : (Cond.arrayClass .int).before args s = true)
    (hK : va_K D vwCl (tyL cy) s) (hP : va_P D vwCl ws H) (hD : va_D A ws) (hS : va_S A H0 H locs) (hA : ∀ q, H0.size ≤ q → A q) (hn : ¬ n < 0) (hk : ¬ k < 0) (hN : n.toNatClampNeg = N') (hM : k.toNatClampNeg = K')
    (hb1 : N' * 4 ≤ 536870912) (hb2 : K' * componentBytes .int ≤ 536870912) (hb3 : K' ≤ 536870912) (hcells : cells + (1 + N') ≤ R.cells) (hslots : slots + (N' + N' * K') ≤ R.slots) (hdg : decode cc pc = .ok (.multianewarray index 2, 4))
    (kk : ∀ (q : Nat) (r : Nat → Nat) (H1 : Heap), va_P D vwCl (ws ++ (q, rR cy N' (fun j => some (r j))) :: (List.range N').map (fun k => (r k, rI cy K' (fun _ => 0)))) H1 → va_D A (ws ++ (q, rR cy N' (fun j => some (r j))) :: (List.range N').map (fun k => (r k, rI cy K' (fun _ => 0)))) → va_S A H0 H1 locs →
      W p l e R s m args below meth c H1 locs (cells + 1 + N') (slots + N' + N' * K') Q (F0 m (pc + 4) ls (.ref q :: rest))) : W p l e R s m args below meth c H locs cells slots Q (F0 m pc ls (.int k :: .int n :: rest)) := by
  have hcy : s.vm.findClass (FieldType.array .int).toString = some (cy 0) := (hK.2 0 _ rfl).2
  refine va_mna (X := ws) (L := []) (f := fun _ => rI cy 0 (fun _ => 0)) (z := (K', .inl fun _ => 0)) hexec hb hown hclink hover harr hcy hK (by rw [show va_pl [] (fun _ => rI cy 0 (fun _ => 0)) = [] from rfl, List.append_nil]; exact hP) (by rw [show va_pl [] (fun _ => rI cy 0 (fun _ => 0)) = [] from rfl, List.append_nil]; exact hD) hS hA hn hk hN hM hb1 hb2 hb3 rfl rfl hcells hslots (fun c => ?_) hdg (fun q r cA H1 _ _ hK1 hP1 hD1 hS1 => ?_)
  · show ({ cls := c, slots := Array.replicate K' (.int 0), vm := .none } : Cell) = _
    rw [arrV_new]; rfl
  have e := kRA5 (t0 := 4) hK hK1 rfl (fun _ h => h)
  subst e
  have hpl : va_pl ([] ++ (List.range N').map r) (vr_up (fun _ => rI cy 0 (fun _ => 0)) ((List.range N').map r) (.inl (cy 0, K', .inl fun _ => 0))) = (List.range N').map (fun k => (r k, rI cy K' (fun _ => 0))) := by
    unfold va_pl
    rw [List.nil_append, List.map_map]
    apply List.map_congr_left
    intro a ha
    show (r a, vr_up _ _ _ (r a)) = _
    rw [vr_up_in (List.mem_map_of_mem ha)]
  rw [hpl] at hP1 hD1
  refine kk q r H1 ?_ ?_ hS1
  · refine (va_P_left (va_P_left hP1)).app (va_P.app (w1 := [_]) (fun i x hx => ?_) (va_P_right hP1))
    have h0 : i < 1 := (List.getElem?_eq_some_iff.mp hx).1
    rw [show i = 0 by omega] at hx
    cases hx
    have h1 := va_P_right (va_P_left hP1) 0 _ rfl
    show H1[q]? = some (vp_cell _ _)
    rw [show H1[q]? = some (vp_cell _ _) from h1, vp_cell_q, vp_cell_q]
    refine congrArg some (arrV_cg _ (fun j hj => ?_))
    show va_rf (if j < N' then some (r j) else none) = va_rf (some (r j))
    rw [if_pos hj]
  · refine va_D_fst ?_ hD1
    simp only [List.map_append, List.map_cons, List.map_nil, List.append_assoc, List.cons_append, List.nil_append]
theorem kRunI (S : CallFix p m c cc nL s args Ts own) (hM : Met l y wsy rm (kPre D cy (.ref b :: As) wc H.size) Qc mc ms free) (cw : CallB R s args own index y bytes maxL none wsy rm mc ms n ∧ y.name = "<init>" ∧ (Cond.instanceMethod y).before args s = true) (hK : va_K D vwCl (tyL cy) s) (hN : kN s) (hP : va_P D vwCl ws H) (hD : va_D A ws) (isC : List Nat) (hC : isC.map (fun i => ws[i]?) = wc.map some) (hnd : va_nd isC = true)
    (hn : As.length = n) (hsize : ls.size = nL) (hst : st0 = As.reverse ++ .ref b :: rest) (hW : (rest.map fun v => v.category).sum ≤ 8) (hdg : decode cc pc = .ok (.invokespecial index, 3)) (hf : cells + mc ≤ R.cells ∧ slots + ms ≤ R.slots) :
    va_Run p l e R s m args below meth c H locs cells slots mc ms (F0 m pc ls st0) rest (Qc (Value.ref b :: As).toArray) free :=
  va_runI S hM cw ⟨kU.blind, fun U hU hW => ⟨rfl, kStart hK hN hP hD isC hC hnd U hU hW⟩⟩ rfl hn hsize hst (lv_room hW) hdg hf
theorem kRunIN (S : CallFix p m c cc nL s args Ts own) (hM : Met l y wsy rm (kPre D cy (.ref b :: As) wc H.size) Qc mc ms free) (cw : va_CN R s args own index y host bytes maxL none wsy rm mc ms n ∧ y.name = "<init>" ∧ (Cond.instanceMethod y).before args s = true) (hK : va_K D vwCl (tyL cy) s) (hN : kN s) (hP : va_P D vwCl ws H) (hD : va_D A ws) (isC : List Nat) (hC : isC.map (fun i => ws[i]?) = wc.map some) (hnd : va_nd isC = true)
    (hn : As.length = n) (hsize : ls.size = nL) (hst : st0 = As.reverse ++ .ref b :: rest) (hW : (rest.map fun v => v.category).sum ≤ 8) (hdg : decode cc pc = .ok (.invokespecial index, 3)) (hf : cells + mc ≤ R.cells ∧ slots + ms ≤ R.slots) :
    va_Run p l e R s m args below meth c H locs cells slots mc ms (F0 m pc ls st0) rest (Qc (Value.ref b :: As).toArray) free :=
  va_runIN S hM cw ⟨kU.blind, fun U hU hW => ⟨rfl, kStart hK hN hP hD isC hC hnd U hU hW⟩⟩ rfl hn hsize hst (lv_room hW) hdg hf
theorem kRunIA (S : CallFix p m c cc nL s args Ts own) (hM : Met l y wsy rm (kPreA D cy (.ref b :: As) wc H.size) Qc mc ms free) (cw : CallB R s args own index y bytes maxL none wsy rm mc ms n ∧ y.name = "<init>" ∧ (Cond.instanceMethod y).before args s = true) (hK : va_K D vwCl (tyL cy) s) (hN : kN s) (hO : va_AOA .int s) (hP : va_P D vwCl ws H) (hD : va_D A ws) (isC : List Nat) (hC : isC.map (fun i => ws[i]?) = wc.map some) (hnd : va_nd isC = true)
    (hn : As.length = n) (hsize : ls.size = nL) (hst : st0 = As.reverse ++ .ref b :: rest) (hW : (rest.map fun v => v.category).sum ≤ 8) (hdg : decode cc pc = .ok (.invokespecial index, 3)) (hf : cells + mc ≤ R.cells ∧ slots + ms ≤ R.slots) :
    va_Run p l e R s m args below meth c H locs cells slots mc ms (F0 m pc ls st0) rest (Qc (Value.ref b :: As).toArray) free :=
  va_runI S hM cw ⟨kPreA.blind, fun U hU hW => ⟨rfl, kStart hK hN hP hD isC hC hnd U hU hW, hO.mv hW.alike⟩⟩ rfl hn hsize hst (lv_room hW) hdg hf
theorem kRunINA (S : CallFix p m c cc nL s args Ts own) (hM : Met l y wsy rm (kPreA D cy (.ref b :: As) wc H.size) Qc mc ms free) (cw : va_CN R s args own index y host bytes maxL none wsy rm mc ms n ∧ y.name = "<init>" ∧ (Cond.instanceMethod y).before args s = true) (hK : va_K D vwCl (tyL cy) s) (hN : kN s) (hO : va_AOA .int s) (hP : va_P D vwCl ws H) (hD : va_D A ws) (isC : List Nat) (hC : isC.map (fun i => ws[i]?) = wc.map some) (hnd : va_nd isC = true)
    (hn : As.length = n) (hsize : ls.size = nL) (hst : st0 = As.reverse ++ .ref b :: rest) (hW : (rest.map fun v => v.category).sum ≤ 8) (hdg : decode cc pc = .ok (.invokespecial index, 3)) (hf : cells + mc ≤ R.cells ∧ slots + ms ≤ R.slots) :
    va_Run p l e R s m args below meth c H locs cells slots mc ms (F0 m pc ls st0) rest (Qc (Value.ref b :: As).toArray) free :=
  va_runIN S hM cw ⟨kPreA.blind, fun U hU hW => ⟨rfl, kStart hK hN hP hD isC hC hnd U hU hW, hO.mv hW.alike⟩⟩ rfl hn hsize hst (lv_room hW) hdg hf
theorem kCn {a : Array Value} {wcn : (Nat → Nat → Nat) → va_W} (hr : va_Run p l e R s m args below meth c H locs cells slots mc ms (F0 m pc ls st0) rest (kQn D cy (va_A wc H.size) wcn a) (va_A wc H.size)) (hP : va_P D vwCl ws H) (hD : va_D A ws) (hS : va_S A H0 H locs) (hA : ∀ q, H0.size ≤ q → A q) (isC isR : List Nat) (hC : isC.map (fun i => ws[i]?) = wc.map some) (hR : isR.map (fun i => ws[i]?) = wr.map some) (hn : va_nd isR = true) (hdis : ∀ i ∈ isR, i ∉ isC)
    (kk : ∀ (u : Nat → Nat → Nat) (H1 : Heap) (locs1 : List Loc), va_P D vwCl (wr ++ wcn u) H1 → va_D A (wr ++ wcn u) → va_S A H0 H1 locs1 → W p l e R s m args below meth c H1 locs1 (cells + mc) (slots + ms) Q (F0 m (pc + 3) ls rest)) : W p l e R s m args below meth c H locs cells slots Q (F0 m pc ls st0) := by
  have hF := va_free (wc := wc) hD hS hA isC hC
  refine va_callv hr hS (fun q _ h => hF q h) hF (fun u t H1 locs1 ht hvm hw hB hz1 hk1 hS1 => ?_)
  obtain ⟨hP1, hK1, hD1⟩ := hB
  rw [ht] at hP1
  obtain ⟨hP2, hD2⟩ := va_join hP hD isC isR hC hR hn hdis hk1 hF hP1 hD1
  exact kk u H1 locs1 hP2 hD2 hS1
end KM
