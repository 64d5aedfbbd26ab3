def wsX9_sortOf : List Cond := .code yX9_sortOf cX9_sortOf 2 (some .int) :: W0
abbrev wX9_sortOf (cy : Nat → ClassId) (aM : Nat) (qM : Nat → Nat) (vM : Nat → Int32) (vM_r : Nat → Int32) : va_W := [(aM, oX9 vM qM), (qM 15, rI cy 224 vM_r)]
set_option maxHeartbeats 4000000 in
set_option maxRecDepth 100000 in
theorem kX9_sortOf (l : Launch) (D : va_G) (cy : Nat → ClassId) (sz : Nat) (aM : Nat) (qM : Nat → Nat) (vM : Nat → Int32) (vM_r : Nat → Int32) (x1 : Int32) (zr : Int32) (hok : fX9_sortOf vM vM_r x1 = some zr) (A : Nat → Prop) (hAe : va_A (wX9_sortOf cy aM qM vM vM_r) sz = A) : Met l yX9_sortOf wsX9_sortOf ({ frames := 0, cells := 0, slots := 0, locals := 0 } : Room) (kPre D cy [.ref aM, .int x1] (wX9_sortOf cy aM qM vM vM_r) sz) (kQi D cy zr A (wX9_sortOf cy aM qM vM vM_r)) 0 0 A := by
  refine Met.ofW (cc := cX9_sortOf) (maxL := 2) (ret := (some .int)) (by decide) rfl ?_
  intro p e s m args below meth c s₁ B hml hv
  obtain ⟨rfl, hsz, hP, hK, hD0, hN⟩ := hv
  have hx := B.exec
  have hb := B.bytes
  have hr := B.returns
  have ht0 : ∀ w ∈ W0, w.before _ s = true := fun w h => atoms_spec (ws := wsX9_sortOf) B.pre w (List.mem_cons_of_mem _ h)
  have hown : s.vm.findClass RX9 = some m.cls := findClass_of_methodNamed B.named
  have hlocks := B.notSynchronized
  subst hsz
  have hD : va_D A (wX9_sortOf cy aM qM vM vM_r) := by rw [← hAe]; exact hD0.self
  have hA : ∀ q : Nat, s.heap.size ≤ q → A q := fun q h => by rw [← hAe]; exact Or.inr h
  have hS : va_S A s.heap s.heap [] := va_S.rf
  have hl := lv_entry ([.ref aM, .int x1]) (n := 2) (Nat.le_of_ble_eq_true rfl)
  rw [lg_entry_eq]
  generalize (lg_sl ([.ref aM, .int x1]) ++ List.replicate (2 - (lg_sl ([.ref aM, .int x1])).length) Slot.unset).toArray = ls at hl ⊢
  have hl : lv_has ls 2 [(0, .ref aM), (1, .int x1)] := hl
  unfold fX9_sortOf at hok
  obtain ⟨H, hH⟩ : ∃ H, H = s.heap := ⟨_, rfl⟩
  obtain ⟨locs, hlc⟩ : ∃ x : List Loc, x = [] := ⟨_, rfl⟩
  have hP : va_P D vwCl (wX9_sortOf cy aM qM vM vM_r) H := by rw [hH]; exact hP
  have hS : va_S A s.heap H locs := by rw [hH, hlc]; exact hS
  rw [show W p l e _ s m _ below meth c s.heap [] = W p l e _ s m _ below meth c H locs from by rw [hH, hlc]]
  refine lv_aload_n hx hb dX9_sortOf_0 rfl (lv_at hl 0 rfl) ?_
  refine va_get (D := D) (ci := 8) (v := .ref (qM 15)) (C := RX9) (T := TX9) (N := 29) hx hb ht0 niX9 hown hK hP 0 rfl rfl 15 (by decide) (ht0 _ wd854) (fun _ h9 => h9) rfl dX9_sortOf_1 ?_
  refine lv_bipush (v := 8) hx hb dX9_sortOf_4 (by decide) ?_
  refine lv_iconst (v := 2) hx hb dX9_sortOf_6 (by decide) ?_
  refine lv_iload_n hx hb dX9_sortOf_7 rfl (lv_at hl 1 rfl) ?_
  refine lv_imul hx hb dX9_sortOf_8 ?_
  refine lv_iadd hx hb dX9_sortOf_9 ?_
  obtain ⟨g10, hok⟩ := gd_some hok
  refine va_iald hx hb hK hP 1 0 rfl rfl (okI_in g10) dX9_sortOf_10 ?_
  cases hok
  exact W.iret hx hb hr (fun t ht hW => ⟨⟨_, (), rfl, rfl, by rw [ht]; exact hP, va_K.moved hW.alike hK, hD⟩, hS.F ht⟩) hS.2.2 dX9_sortOf_11
def wsX9_placesOf : List Cond := .code yX9_placesOf cX9_placesOf 2 (some .int) :: W0
abbrev wX9_placesOf (cy : Nat → ClassId) (aM : Nat) (qM : Nat → Nat) (vM : Nat → Int32) (vM_r : Nat → Int32) : va_W := [(aM, oX9 vM qM), (qM 15, rI cy 224 vM_r)]
set_option maxHeartbeats 4000000 in
set_option maxRecDepth 100000 in
theorem kX9_placesOf (l : Launch) (D : va_G) (cy : Nat → ClassId) (sz : Nat) (aM : Nat) (qM : Nat → Nat) (vM : Nat → Int32) (vM_r : Nat → Int32) (x1 : Int32) (zr : Int32) (hok : fX9_placesOf vM vM_r x1 = some zr) (A : Nat → Prop) (hAe : va_A (wX9_placesOf cy aM qM vM vM_r) sz = A) : Met l yX9_placesOf wsX9_placesOf ({ frames := 0, cells := 0, slots := 0, locals := 0 } : Room) (kPre D cy [.ref aM, .int x1] (wX9_placesOf cy aM qM vM vM_r) sz) (kQi D cy zr A (wX9_placesOf cy aM qM vM vM_r)) 0 0 A := by
  refine Met.ofW (cc := cX9_placesOf) (maxL := 2) (ret := (some .int)) (by decide) rfl ?_
  intro p e s m args below meth c s₁ B hml hv
  obtain ⟨rfl, hsz, hP, hK, hD0, hN⟩ := hv
  have hx := B.exec
  have hb := B.bytes
  have hr := B.returns
  have ht0 : ∀ w ∈ W0, w.before _ s = true := fun w h => atoms_spec (ws := wsX9_placesOf) B.pre w (List.mem_cons_of_mem _ h)
  have hown : s.vm.findClass RX9 = some m.cls := findClass_of_methodNamed B.named
  have hlocks := B.notSynchronized
  subst hsz
  have hD : va_D A (wX9_placesOf cy aM qM vM vM_r) := by rw [← hAe]; exact hD0.self
  have hA : ∀ q : Nat, s.heap.size ≤ q → A q := fun q h => by rw [← hAe]; exact Or.inr h
  have hS : va_S A s.heap s.heap [] := va_S.rf
  have hl := lv_entry ([.ref aM, .int x1]) (n := 2) (Nat.le_of_ble_eq_true rfl)
  rw [lg_entry_eq]
  generalize (lg_sl ([.ref aM, .int x1]) ++ List.replicate (2 - (lg_sl ([.ref aM, .int x1])).length) Slot.unset).toArray = ls at hl ⊢
  have hl : lv_has ls 2 [(0, .ref aM), (1, .int x1)] := hl
  unfold fX9_placesOf at hok
  obtain ⟨H, hH⟩ : ∃ H, H = s.heap := ⟨_, rfl⟩
  obtain ⟨locs, hlc⟩ : ∃ x : List Loc, x = [] := ⟨_, rfl⟩
  have hP : va_P D vwCl (wX9_placesOf cy aM qM vM vM_r) H := by rw [hH]; exact hP
  have hS : va_S A s.heap H locs := by rw [hH, hlc]; exact hS
  rw [show W p l e _ s m _ below meth c s.heap [] = W p l e _ s m _ below meth c H locs from by rw [hH, hlc]]
  refine lv_aload_n hx hb dX9_placesOf_0 rfl (lv_at hl 0 rfl) ?_
  refine va_get (D := D) (ci := 8) (v := .ref (qM 15)) (C := RX9) (T := TX9) (N := 29) hx hb ht0 niX9 hown hK hP 0 rfl rfl 15 (by decide) (ht0 _ wd854) (fun _ h9 => h9) rfl dX9_placesOf_1 ?_
  refine lv_bipush (v := 8) hx hb dX9_placesOf_4 (by decide) ?_
  refine lv_iconst (v := 2) hx hb dX9_placesOf_6 (by decide) ?_
  refine lv_iload_n hx hb dX9_placesOf_7 rfl (lv_at hl 1 rfl) ?_
  refine lv_imul hx hb dX9_placesOf_8 ?_
  refine lv_iadd hx hb dX9_placesOf_9 ?_
  refine lv_iconst (v := 1) hx hb dX9_placesOf_10 (by decide) ?_
  refine lv_iadd hx hb dX9_placesOf_11 ?_
  obtain ⟨g12, hok⟩ := gd_some hok
  refine va_iald hx hb hK hP 1 0 rfl rfl (okI_in g12) dX9_placesOf_12 ?_
  cases hok
  exact W.iret hx hb hr (fun t ht hW => ⟨⟨_, (), rfl, rfl, by rw [ht]; exact hP, va_K.moved hW.alike hK, hD⟩, hS.F ht⟩) hS.2.2 dX9_placesOf_13
def wsX9_kindOf : List Cond := .code yX9_kindOf cX9_kindOf 2 (some .int) :: W0
abbrev wX9_kindOf (cy : Nat → ClassId) (aM : Nat) (qM : Nat → Nat) (vM : Nat → Int32) (vM_r : Nat → Int32) : va_W := [(aM, oX9 vM qM), (qM 15, rI cy 224 vM_r)]
set_option maxHeartbeats 4000000 in
set_option maxRecDepth 100000 in
theorem kX9_kindOf (l : Launch) (D : va_G) (cy : Nat → ClassId) (sz : Nat) (aM : Nat) (qM : Nat → Nat) (vM : Nat → Int32) (vM_r : Nat → Int32) (x1 : Int32) (zr : Int32) (hok : fX9_kindOf vM vM_r x1 = some zr) (A : Nat → Prop) (hAe : va_A (wX9_kindOf cy aM qM vM vM_r) sz = A) : Met l yX9_kindOf wsX9_kindOf ({ frames := 0, cells := 0, slots := 0, locals := 0 } : Room) (kPre D cy [.ref aM, .int x1] (wX9_kindOf cy aM qM vM vM_r) sz) (kQi D cy zr A (wX9_kindOf cy aM qM vM vM_r)) 0 0 A := by
  refine Met.ofW (cc := cX9_kindOf) (maxL := 2) (ret := (some .int)) (by decide) rfl ?_
  intro p e s m args below meth c s₁ B hml hv
  obtain ⟨rfl, hsz, hP, hK, hD0, hN⟩ := hv
  have hx := B.exec
  have hb := B.bytes
  have hr := B.returns
  have ht0 : ∀ w ∈ W0, w.before _ s = true := fun w h => atoms_spec (ws := wsX9_kindOf) B.pre w (List.mem_cons_of_mem _ h)
  have hown : s.vm.findClass RX9 = some m.cls := findClass_of_methodNamed B.named
  have hlocks := B.notSynchronized
  subst hsz
  have hD : va_D A (wX9_kindOf cy aM qM vM vM_r) := by rw [← hAe]; exact hD0.self
  have hA : ∀ q : Nat, s.heap.size ≤ q → A q := fun q h => by rw [← hAe]; exact Or.inr h
  have hS : va_S A s.heap s.heap [] := va_S.rf
  have hl := lv_entry ([.ref aM, .int x1]) (n := 2) (Nat.le_of_ble_eq_true rfl)
  rw [lg_entry_eq]
  generalize (lg_sl ([.ref aM, .int x1]) ++ List.replicate (2 - (lg_sl ([.ref aM, .int x1])).length) Slot.unset).toArray = ls at hl ⊢
  have hl : lv_has ls 2 [(0, .ref aM), (1, .int x1)] := hl
  unfold fX9_kindOf at hok
  obtain ⟨H, hH⟩ : ∃ H, H = s.heap := ⟨_, rfl⟩
  obtain ⟨locs, hlc⟩ : ∃ x : List Loc, x = [] := ⟨_, rfl⟩
  have hP : va_P D vwCl (wX9_kindOf cy aM qM vM vM_r) H := by rw [hH]; exact hP
  have hS : va_S A s.heap H locs := by rw [hH, hlc]; exact hS
  rw [show W p l e _ s m _ below meth c s.heap [] = W p l e _ s m _ below meth c H locs from by rw [hH, hlc]]
  refine lv_aload_n hx hb dX9_kindOf_0 rfl (lv_at hl 0 rfl) ?_
  refine va_get (D := D) (ci := 8) (v := .ref (qM 15)) (C := RX9) (T := TX9) (N := 29) hx hb ht0 niX9 hown hK hP 0 rfl rfl 15 (by decide) (ht0 _ wd854) (fun _ h9 => h9) rfl dX9_kindOf_1 ?_
  refine lv_bipush (v := 62) hx hb dX9_kindOf_4 (by decide) ?_
  refine lv_iconst (v := 3) hx hb dX9_kindOf_6 (by decide) ?_
  refine lv_iload_n hx hb dX9_kindOf_7 rfl (lv_at hl 1 rfl) ?_
  refine lv_imul hx hb dX9_kindOf_8 ?_
  refine lv_iadd hx hb dX9_kindOf_9 ?_
  obtain ⟨g10, hok⟩ := gd_some hok
  refine va_iald hx hb hK hP 1 0 rfl rfl (okI_in g10) dX9_kindOf_10 ?_
  cases hok
  exact W.iret hx hb hr (fun t ht hW => ⟨⟨_, (), rfl, rfl, by rw [ht]; exact hP, va_K.moved hW.alike hK, hD⟩, hS.F ht⟩) hS.2.2 dX9_kindOf_11
def wsX9_aheadOf : List Cond := .code yX9_aheadOf cX9_aheadOf 5 (some .int) :: W0
abbrev wX9_aheadOf (cy : Nat → ClassId) (aM : Nat) (qM : Nat → Nat) (vM : Nat → Int32) (vM_r : Nat → Int32) : va_W := [(aM, oX9 vM qM), (qM 15, rI cy 224 vM_r)]
set_option maxHeartbeats 4000000 in
set_option maxRecDepth 100000 in
theorem kX9_aheadOf (l : Launch) (D : va_G) (cy : Nat → ClassId) (sz : Nat) (aM : Nat) (qM : Nat → Nat) (vM : Nat → Int32) (vM_r : Nat → Int32) (x1 : Int32) (zr : Int32) (hok : fX9_aheadOf vM vM_r x1 = some zr) (A : Nat → Prop) (hAe : va_A (wX9_aheadOf cy aM qM vM vM_r) sz = A) : Met l yX9_aheadOf wsX9_aheadOf ({ frames := 1, cells := 0, slots := 0, locals := 21 } : Room) (kPre D cy [.ref aM, .int x1] (wX9_aheadOf cy aM qM vM vM_r) sz) (kQi D cy zr A (wX9_aheadOf cy aM qM vM vM_r)) 0 0 A := by
  refine Met.ofW (cc := cX9_aheadOf) (maxL := 5) (ret := (some .int)) (by decide) rfl ?_
  intro p e s m args below meth c s₁ B hml hv
  obtain ⟨rfl, hsz, hP, hK, hD0, hN⟩ := hv
  have hx := B.exec
  have hb := B.bytes
  have hr := B.returns
  have ht0 : ∀ w ∈ W0, w.before _ s = true := fun w h => atoms_spec (ws := wsX9_aheadOf) B.pre w (List.mem_cons_of_mem _ h)
  have hown : s.vm.findClass RX9 = some m.cls := findClass_of_methodNamed B.named
  have hlocks := B.notSynchronized
  subst hsz
  have hD : va_D A (wX9_aheadOf cy aM qM vM vM_r) := by rw [← hAe]; exact hD0.self
  have hA : ∀ q : Nat, s.heap.size ≤ q → A q := fun q h => by rw [← hAe]; exact Or.inr h
  have hS : va_S A s.heap s.heap [] := va_S.rf
  have hl := lv_entry ([.ref aM, .int x1]) (n := 5) (Nat.le_of_ble_eq_true rfl)
  rw [lg_entry_eq]
  generalize (lg_sl ([.ref aM, .int x1]) ++ List.replicate (5 - (lg_sl ([.ref aM, .int x1])).length) Slot.unset).toArray = ls at hl ⊢
  have hl : lv_has ls 5 [(0, .ref aM), (1, .int x1)] := hl
  generalize hQe : MQ below (kQi D cy zr A (wX9_aheadOf cy aM qM vM vM_r)) ([.ref aM, .int x1] : List Value).toArray s 0 0 A = Q
  have J47 : ∀ (t0_47 : Int32), ∀ (H : Heap) (locs : List Loc) (ls : Array Slot), va_P D vwCl (wX9_aheadOf cy aM qM vM vM_r) H → va_D A (wX9_aheadOf cy aM qM vM vM_r) → va_S A s.heap H locs → lv_has ls 5 [] → fX9_aheadOf_J47 x1 t0_47 = some zr → W p l e ({ frames := 1, cells := 0, slots := 0, locals := 21 } : Room) s m ([.ref aM, .int x1] : List Value).toArray below meth c H locs 0 0 Q (F0 m 47 ls [.int t0_47, .int ((9 : Int32) * (x1 / (9 : Int32)))]) := by
    intro t0_47 H locs ls hP hD hS hl hok
    unfold fX9_aheadOf_J47 at hok
    refine lv_iadd hx hb dX9_aheadOf_47 ?_
    cases hok
    subst hQe; exact W.iret hx hb hr (fun t ht hW => ⟨⟨_, (), rfl, rfl, by rw [ht]; exact hP, va_K.moved hW.alike hK, hD⟩, hS.F ht⟩) hS.2.2 dX9_aheadOf_48
  unfold fX9_aheadOf at hok
  obtain ⟨H, hH⟩ : ∃ H, H = s.heap := ⟨_, rfl⟩
  obtain ⟨locs, hlc⟩ : ∃ x : List Loc, x = [] := ⟨_, rfl⟩
  have hP : va_P D vwCl (wX9_aheadOf cy aM qM vM vM_r) H := by rw [hH]; exact hP
  have hS : va_S A s.heap H locs := by rw [hH, hlc]; exact hS
  rw [show W p l e _ s m _ below meth c s.heap [] = W p l e _ s m _ below meth c H locs from by rw [hH, hlc]]
  refine lv_iload_n hx hb dX9_aheadOf_0 rfl (lv_at hl 1 rfl) ?_
  refine lv_bipush (v := 9) hx hb dX9_aheadOf_1 (by decide) ?_
  refine lv_idiv hx hb dX9_aheadOf_3 (by decide) ?_
  refine lv_istore_n (lv' := [(2, .int (x1 / (9 : Int32))), (0, .ref aM), (1, .int x1)]) hx hb dX9_aheadOf_4 rfl hl (by decide) rfl (fun ls hl => ?_)
  refine lv_aload_n hx hb dX9_aheadOf_5 rfl (lv_at hl 1 rfl) ?_
  refine lv_iload_n hx hb dX9_aheadOf_6 rfl (lv_at hl 0 rfl) ?_
  obtain ⟨r7, hc7, hok⟩ := k_bind hok
  refine kCi (wc := (wX9_placesOf cy aM qM vM vM_r)) (wc2 := (wX9_placesOf cy aM qM vM vM_r)) (wr := []) (ws2 := (wX9_aheadOf cy aM qM vM vM_r)) (kRunV (As := [.int (x1 / (9 : Int32))]) (rest := []) ⟨hx, hb, hml, hown, ht0⟩ (kX9_placesOf l D cy _ aM qM vM vM_r (x1 / (9 : Int32)) r7 hc7 _ rfl) (cwV 1 ht0 (gV wd878 wd879 wd880 wd744 wd881) rfl rfl rfl (by decide +kernel) ⟨Nat.le_of_ble_eq_true rfl, Nat.le_of_ble_eq_true rfl⟩) hK hN hP hD [0, 1] rfl (by decide) 0 8 rfl rfl rfl hl.1 rfl (Nat.le_of_ble_eq_true rfl) dX9_aheadOf_7 ⟨Nat.zero_le _, Nat.zero_le _⟩) hP hD hS hA [0, 1] [] rfl rfl (by decide) (by decide) [0, 1] (by decide) rfl rfl (fun H locs hP hD hS => ?_)
  refine lv_istore_n (lv' := [(3, .int r7), (2, .int (x1 / (9 : Int32))), (0, .ref aM), (1, .int x1)]) hx hb dX9_aheadOf_10 rfl hl (by decide) rfl (fun ls hl => ?_)
  refine lv_iload_n hx hb dX9_aheadOf_11 rfl (lv_at hl 3 rfl) ?_
  refine lv_bipush (v := 9) hx hb dX9_aheadOf_12 (by decide) ?_
  refine lv_irem hx hb dX9_aheadOf_14 (by decide) ?_
  refine lv_istore (lv' := [(4, .int (irm x1 (9 : Int32))), (3, .int r7), (2, .int (x1 / (9 : Int32))), (0, .ref aM), (1, .int x1)]) hx hb dX9_aheadOf_15 hl (by decide) rfl (fun ls hl => ?_)
  refine lv_bipush (v := 9) hx hb dX9_aheadOf_17 (by decide) ?_
  refine lv_iload_n hx hb dX9_aheadOf_19 rfl (lv_at hl 2 rfl) ?_
  refine lv_imul hx hb dX9_aheadOf_20 ?_
  refine lv_aload_n hx hb dX9_aheadOf_21 rfl (lv_at hl 3 rfl) ?_
  refine lv_iload_n hx hb dX9_aheadOf_22 rfl (lv_at hl 2 rfl) ?_
  obtain ⟨r23, hc23, hok⟩ := k_bind hok
  refine kCi (wc := (wX9_sortOf cy aM qM vM vM_r)) (wc2 := (wX9_sortOf cy aM qM vM vM_r)) (wr := []) (ws2 := (wX9_aheadOf cy aM qM vM vM_r)) (kRunV (As := [.int (x1 / (9 : Int32))]) (rest := [.int ((9 : Int32) * (x1 / (9 : Int32)))]) ⟨hx, hb, hml, hown, ht0⟩ (kX9_sortOf l D cy _ aM qM vM vM_r (x1 / (9 : Int32)) r23 hc23 _ rfl) (cwV 1 ht0 (gV wd882 wd883 wd884 wd744 wd885) rfl rfl rfl (by decide +kernel) ⟨Nat.le_of_ble_eq_true rfl, Nat.le_of_ble_eq_true rfl⟩) hK hN hP hD [0, 1] rfl (by decide) 0 8 rfl rfl rfl hl.1 rfl (Nat.le_of_ble_eq_true rfl) dX9_aheadOf_23 ⟨Nat.zero_le _, Nat.zero_le _⟩) hP hD hS hA [0, 1] [] rfl rfl (by decide) (by decide) [0, 1] (by decide) rfl rfl (fun H locs hP hD hS => ?_)
  refine lv_iconst (v := 2) hx hb dX9_aheadOf_26 (by decide) ?_
  refine lv_icmp_ne (tgt := 41) hx hb dX9_aheadOf_27 (by decide) (fun c27 => ?_) (fun c27 => ?_)
  · have hok := k_neg c27 hok
    refine lv_iload hx hb dX9_aheadOf_41 (lv_at hl 0 rfl) ?_
    refine lv_iconst (v := 1) hx hb dX9_aheadOf_43 (by decide) ?_
    refine lv_iadd hx hb dX9_aheadOf_44 ?_
    refine lv_iload_n hx hb dX9_aheadOf_45 rfl (lv_at hl 1 rfl) ?_
    obtain ⟨g46, hok⟩ := gd_some hok
    refine lv_irem hx hb dX9_aheadOf_46 (nzI_ne g46) ?_
    exact J47 (irm ((irm x1 (9 : Int32)) + (1 : Int32)) r7) H locs ls hP hD hS (lv_sub hl [] rfl) hok
  · have hok := k_pos c27 hok
    refine lv_iload hx hb dX9_aheadOf_30 (lv_at hl 0 rfl) ?_
    refine lv_iload_n hx hb dX9_aheadOf_32 rfl (lv_at hl 1 rfl) ?_
    refine lv_iadd hx hb dX9_aheadOf_33 ?_
    refine lv_iconst (v := 1) hx hb dX9_aheadOf_34 (by decide) ?_
    refine lv_isub hx hb dX9_aheadOf_35 ?_
    refine lv_iload_n hx hb dX9_aheadOf_36 rfl (lv_at hl 1 rfl) ?_
    obtain ⟨g37, hok⟩ := gd_some hok
    refine lv_irem hx hb dX9_aheadOf_37 (nzI_ne g37) ?_
    refine lv_goto (tgt := 47) hx hb dX9_aheadOf_38 (by decide) ?_
    exact J47 (irm (((irm x1 (9 : Int32)) + r7) - (1 : Int32)) r7) H locs ls hP hD hS (lv_sub hl [] rfl) hok
def wsX9_thingAt : List Cond := .code yX9_thingAt cX9_thingAt 4 (some .int) :: W0
abbrev wX9_thingAt (cy : Nat → ClassId) (aM : Nat) (ap1 : Nat) (qM : Nat → Nat) (vM : Nat → Int32) (vM_r : Nat → Int32) (n1 : Nat) (p1 : Nat → Int32) : va_W := [(aM, oX9 vM qM), (qM 15, rI cy 224 vM_r), (ap1, rI cy n1 p1)]
set_option maxHeartbeats 4000000 in
set_option maxRecDepth 100000 in
theorem kX9_thingAt (l : Launch) (D : va_G) (cy : Nat → ClassId) (sz : Nat) (aM : Nat) (ap1 : Nat) (qM : Nat → Nat) (vM : Nat → Int32) (vM_r : Nat → Int32) (n1 : Nat) (p1 : Nat → Int32) (x2 : Int32) (zr : Int32) (hok : fX9_thingAt vM vM_r n1 p1 x2 = some zr) (A : Nat → Prop) (hAe : va_A (wX9_thingAt cy aM ap1 qM vM vM_r n1 p1) sz = A) : Met l yX9_thingAt wsX9_thingAt ({ frames := 0, cells := 0, slots := 0, locals := 0 } : Room) (kPre D cy [.ref aM, .ref ap1, .int x2] (wX9_thingAt cy aM ap1 qM vM vM_r n1 p1) sz) (kQi D cy zr A (wX9_thingAt cy aM ap1 qM vM vM_r n1 p1)) 0 0 A := by
  refine Met.ofW (cc := cX9_thingAt) (maxL := 4) (ret := (some .int)) (by decide) rfl ?_
  intro p e s m args below meth c s₁ B hml hv
  obtain ⟨rfl, hsz, hP, hK, hD0, hN⟩ := hv
  have hx := B.exec
  have hb := B.bytes
  have hr := B.returns
  have ht0 : ∀ w ∈ W0, w.before _ s = true := fun w h => atoms_spec (ws := wsX9_thingAt) B.pre w (List.mem_cons_of_mem _ h)
  have hown : s.vm.findClass RX9 = some m.cls := findClass_of_methodNamed B.named
  have hlocks := B.notSynchronized
  subst hsz
  have hD : va_D A (wX9_thingAt cy aM ap1 qM vM vM_r n1 p1) := by rw [← hAe]; exact hD0.self
  have hA : ∀ q : Nat, s.heap.size ≤ q → A q := fun q h => by rw [← hAe]; exact Or.inr h
  have hS : va_S A s.heap s.heap [] := va_S.rf
  have hl := lv_entry ([.ref aM, .ref ap1, .int x2]) (n := 4) (Nat.le_of_ble_eq_true rfl)
  rw [lg_entry_eq]
  generalize (lg_sl ([.ref aM, .ref ap1, .int x2]) ++ List.replicate (4 - (lg_sl ([.ref aM, .ref ap1, .int x2])).length) Slot.unset).toArray = ls at hl ⊢
  have hl : lv_has ls 4 [(0, .ref aM), (1, .ref ap1), (2, .int x2)] := hl
  generalize hQe : MQ below (kQi D cy zr A (wX9_thingAt cy aM ap1 qM vM vM_r n1 p1)) ([.ref aM, .ref ap1, .int x2] : List Value).toArray s 0 0 A = Q
  have L2 : ∀ (fuel : Nat) (y3_2 : Int32), ∀ (H : Heap) (locs : List Loc) (ls : Array Slot), va_P D vwCl (wX9_thingAt cy aM ap1 qM vM vM_r n1 p1) H → va_D A (wX9_thingAt cy aM ap1 qM vM vM_r n1 p1) → va_S A s.heap H locs → lv_has ls 4 [(0, .ref aM), (1, .ref ap1), (2, .int x2), (3, .int y3_2)] → lp (fX9_thingAt_B2 vM_r n1 p1 x2) fuel y3_2 = some zr → W p l e ({ frames := 0, cells := 0, slots := 0, locals := 0 } : Room) s m ([.ref aM, .ref ap1, .int x2] : List Value).toArray below meth c H locs 0 0 Q (F0 m 2 ls []) := by
    intro fuel
    induction fuel with
    | zero => intro y3_2 H locs ls hP hD hS hl hok; exact (lp_0 hok).elim
    | succ fuel ih2 =>
      intro y3_2 H locs ls hP hD hS hl hok
      obtain ⟨y2, hok, hL2, hR2⟩ := lp_step hok
      unfold fX9_thingAt_B2 at hok
      refine lv_iload_n hx hb dX9_thingAt_2 rfl (lv_at hl 3 rfl) ?_
      refine lv_aload_n hx hb dX9_thingAt_3 rfl (lv_at hl 0 rfl) ?_
      refine va_get (D := D) (ci := 8) (v := .ref (qM 15)) (C := RX9) (T := TX9) (N := 29) hx hb ht0 niX9 hown hK hP 0 rfl rfl 15 (by decide) (ht0 _ wd854) (fun _ h9 => h9) rfl dX9_thingAt_4 ?_
      refine lv_iconst (v := 3) hx hb dX9_thingAt_7 (by decide) ?_
      obtain ⟨g8, hok⟩ := gd_some hok
      refine va_iald hx hb hK hP 1 0 rfl rfl (okI_in g8) dX9_thingAt_8 ?_
      refine lv_icmp_ge (tgt := 27) hx hb dX9_thingAt_9 (by decide) (fun c9 => ?_) (fun c9 => ?_)
      · have hok := k_pos c9 hok
        obtain ⟨e2, hok, he2⟩ := ex_some hok
        have hok := hok.trans (congrArg some (hL2 _ he2))
        refine lv_bipush (v := -2) hx hb dX9_thingAt_27 (by decide) ?_
        cases hok
        subst hQe; exact W.iret hx hb hr (fun t ht hW => ⟨⟨_, (), rfl, rfl, by rw [ht]; exact hP, va_K.moved hW.alike hK, hD⟩, hS.F ht⟩) hS.2.2 dX9_thingAt_29
      · have hok := k_neg c9 hok
        refine lv_aload_n hx hb dX9_thingAt_12 rfl (lv_at hl 1 rfl) ?_
        refine lv_iload_n hx hb dX9_thingAt_13 rfl (lv_at hl 3 rfl) ?_
        obtain ⟨g14, hok⟩ := gd_some hok
        refine va_iald hx hb hK hP 2 0 rfl rfl (okI_in g14) dX9_thingAt_14 ?_
        refine lv_iload_n hx hb dX9_thingAt_15 rfl (lv_at hl 2 rfl) ?_
        refine lv_icmp_ne (tgt := 21) hx hb dX9_thingAt_16 (by decide) (fun c16 => ?_) (fun c16 => ?_)
        · have hok := k_neg c16 hok
          refine lv_iinc (v := (y3_2 + 1)) (lv' := [(3, .int (y3_2 + 1)), (0, .ref aM), (1, .ref ap1), (2, .int x2)]) hx hb dX9_thingAt_21 hl (k := 3) rfl (by first | rfl | decide) (by decide) rfl (fun ls hl => ?_)
          refine lv_goto (tgt := 2) hx hb dX9_thingAt_24 (by decide) ?_
          exact ih2 (y3_2 + 1) H locs ls hP hD hS (lv_sub hl [1, 2, 3, 0] rfl) (hR2 _ (Option.some.inj hok).symm)
        · have hok := k_pos c16 hok
          obtain ⟨e2, hok, he2⟩ := ex_some hok
          have hok := hok.trans (congrArg some (hL2 _ he2))
          refine lv_iload_n hx hb dX9_thingAt_19 rfl (lv_at hl 3 rfl) ?_
          cases hok
          subst hQe; exact W.iret hx hb hr (fun t ht hW => ⟨⟨_, (), rfl, rfl, by rw [ht]; exact hP, va_K.moved hW.alike hK, hD⟩, hS.F ht⟩) hS.2.2 dX9_thingAt_20
  unfold fX9_thingAt at hok
  obtain ⟨H, hH⟩ : ∃ H, H = s.heap := ⟨_, rfl⟩
  obtain ⟨locs, hlc⟩ : ∃ x : List Loc, x = [] := ⟨_, rfl⟩
  have hP : va_P D vwCl (wX9_thingAt cy aM ap1 qM vM vM_r n1 p1) H := by rw [hH]; exact hP
  have hS : va_S A s.heap H locs := by rw [hH, hlc]; exact hS
  rw [show W p l e _ s m _ below meth c s.heap [] = W p l e _ s m _ below meth c H locs from by rw [hH, hlc]]
  refine lv_iconst (v := 0) hx hb dX9_thingAt_0 (by decide) ?_
  refine lv_istore_n (lv' := [(3, .int 0), (0, .ref aM), (1, .ref ap1), (2, .int x2)]) hx hb dX9_thingAt_1 rfl hl (by decide) rfl (fun ls hl => ?_)
  exact L2 5000 (0 : Int32) H locs ls hP hD hS (lv_sub hl [1, 2, 3, 0] rfl) hok
def wsX9_isCome : List Cond := .code yX9_isCome cX9_isCome 3 (some .boolean) :: W0
abbrev wX9_isCome (cy : Nat → ClassId) (aM : Nat) (ap1 : Nat) (qM : Nat → Nat) (n1 : Nat) (p1 : Nat → Int32) (vM : Nat → Int32) (vM_r : Nat → Int32) : va_W := [(ap1, rI cy n1 p1), (aM, oX9 vM qM), (qM 15, rI cy 224 vM_r)]
set_option maxHeartbeats 4000000 in
set_option maxRecDepth 100000 in
theorem kX9_isCome (l : Launch) (D : va_G) (cy : Nat → ClassId) (sz : Nat) (aM : Nat) (ap1 : Nat) (qM : Nat → Nat) (n1 : Nat) (p1 : Nat → Int32) (vM : Nat → Int32) (vM_r : Nat → Int32) (x2 : Int32) (zr : Int32) (hok : fX9_isCome n1 p1 vM vM_r x2 = some zr) (A : Nat → Prop) (hAe : va_A (wX9_isCome cy aM ap1 qM n1 p1 vM vM_r) sz = A) : Met l yX9_isCome wsX9_isCome ({ frames := 1, cells := 0, slots := 0, locals := 21 } : Room) (kPre D cy [.ref aM, .ref ap1, .int x2] (wX9_isCome cy aM ap1 qM n1 p1 vM vM_r) sz) (kQi D cy zr A (wX9_isCome cy aM ap1 qM n1 p1 vM vM_r)) 0 0 A := by
  refine Met.ofW (cc := cX9_isCome) (maxL := 3) (ret := (some .boolean)) (by decide) rfl ?_
  intro p e s m args below meth c s₁ B hml hv
  obtain ⟨rfl, hsz, hP, hK, hD0, hN⟩ := hv
  have hx := B.exec
  have hb := B.bytes
  have hr := B.returns
  have ht0 : ∀ w ∈ W0, w.before _ s = true := fun w h => atoms_spec (ws := wsX9_isCome) B.pre w (List.mem_cons_of_mem _ h)
  have hown : s.vm.findClass RX9 = some m.cls := findClass_of_methodNamed B.named
  have hlocks := B.notSynchronized
  subst hsz
  have hD : va_D A (wX9_isCome cy aM ap1 qM n1 p1 vM vM_r) := by rw [← hAe]; exact hD0.self
  have hA : ∀ q : Nat, s.heap.size ≤ q → A q := fun q h => by rw [← hAe]; exact Or.inr h
  have hS : va_S A s.heap s.heap [] := va_S.rf
  have hl := lv_entry ([.ref aM, .ref ap1, .int x2]) (n := 3) (Nat.le_of_ble_eq_true rfl)
  rw [lg_entry_eq]
  generalize (lg_sl ([.ref aM, .ref ap1, .int x2]) ++ List.replicate (3 - (lg_sl ([.ref aM, .ref ap1, .int x2])).length) Slot.unset).toArray = ls at hl ⊢
  have hl : lv_has ls 3 [(0, .ref aM), (1, .ref ap1), (2, .int x2)] := hl
  generalize hQe : MQ below (kQi D cy zr A (wX9_isCome cy aM ap1 qM n1 p1 vM vM_r)) ([.ref aM, .ref ap1, .int x2] : List Value).toArray s 0 0 A = Q
  have J35 : ∀ (t0_35 : Int32), ∀ (H : Heap) (locs : List Loc) (ls : Array Slot), va_P D vwCl (wX9_isCome cy aM ap1 qM n1 p1 vM vM_r) H → va_D A (wX9_isCome cy aM ap1 qM n1 p1 vM vM_r) → va_S A s.heap H locs → lv_has ls 3 [] → fX9_isCome_J35 t0_35 = some zr → W p l e ({ frames := 1, cells := 0, slots := 0, locals := 21 } : Room) s m ([.ref aM, .ref ap1, .int x2] : List Value).toArray below meth c H locs 0 0 Q (F0 m 35 ls [.int t0_35]) := by
    intro t0_35 H locs ls hP hD hS hl hok
    unfold fX9_isCome_J35 at hok
    obtain ⟨g35, hok⟩ := gd_some hok
    cases hok
    subst hQe; exact W.zret hx hb hr (isB_nar g35) (fun t ht hW => ⟨⟨_, (), rfl, rfl, by rw [ht]; exact hP, va_K.moved hW.alike hK, hD⟩, hS.F ht⟩) hS.2.2 dX9_isCome_35
  have J30 : ∀ (H : Heap) (locs : List Loc) (ls : Array Slot), va_P D vwCl (wX9_isCome cy aM ap1 qM n1 p1 vM vM_r) H → va_D A (wX9_isCome cy aM ap1 qM n1 p1 vM vM_r) → va_S A s.heap H locs → lv_has ls 3 [] → fX9_isCome_J30 = some zr → W p l e ({ frames := 1, cells := 0, slots := 0, locals := 21 } : Room) s m ([.ref aM, .ref ap1, .int x2] : List Value).toArray below meth c H locs 0 0 Q (F0 m 30 ls []) := by
    intro  H locs ls hP hD hS hl hok
    unfold fX9_isCome_J30 at hok
    refine lv_iconst (v := 1) hx hb dX9_isCome_30 (by decide) ?_
    refine lv_goto (tgt := 35) hx hb dX9_isCome_31 (by decide) ?_
    exact J35 (1 : Int32) H locs ls hP hD hS (lv_sub hl [] rfl) hok
  unfold fX9_isCome at hok
  obtain ⟨H, hH⟩ : ∃ H, H = s.heap := ⟨_, rfl⟩
  obtain ⟨locs, hlc⟩ : ∃ x : List Loc, x = [] := ⟨_, rfl⟩
  have hP : va_P D vwCl (wX9_isCome cy aM ap1 qM n1 p1 vM vM_r) H := by rw [hH]; exact hP
  have hS : va_S A s.heap H locs := by rw [hH, hlc]; exact hS
  rw [show W p l e _ s m _ below meth c s.heap [] = W p l e _ s m _ below meth c H locs from by rw [hH, hlc]]
  refine lv_aload_n hx hb dX9_isCome_0 rfl (lv_at hl 0 rfl) ?_
  refine lv_aload_n hx hb dX9_isCome_1 rfl (lv_at hl 1 rfl) ?_
  refine lv_iload_n hx hb dX9_isCome_2 rfl (lv_at hl 2 rfl) ?_
  obtain ⟨g3, hok⟩ := gd_some hok
  refine va_iald hx hb hK hP 0 0 rfl rfl (okI_in g3) dX9_isCome_3 ?_
  refine lv_bipush (v := 9) hx hb dX9_isCome_4 (by decide) ?_
  refine lv_idiv hx hb dX9_isCome_6 (by decide) ?_
  obtain ⟨r7, hc7, hok⟩ := k_bind hok
  refine kCi (wc := (wX9_sortOf cy aM qM vM vM_r)) (wc2 := (wX9_sortOf cy aM qM vM vM_r)) (wr := [(ap1, rI cy n1 p1)]) (ws2 := (wX9_isCome cy aM ap1 qM n1 p1 vM vM_r)) (kRunV (As := [.int ((p1 x2.toNatClampNeg) / (9 : Int32))]) (rest := []) ⟨hx, hb, hml, hown, ht0⟩ (kX9_sortOf l D cy _ aM qM vM vM_r ((p1 x2.toNatClampNeg) / (9 : Int32)) r7 hc7 _ rfl) (cwV 1 ht0 (gV wd882 wd883 wd884 wd744 wd885) rfl rfl rfl (by decide +kernel) ⟨Nat.le_of_ble_eq_true rfl, Nat.le_of_ble_eq_true rfl⟩) hK hN hP hD [1, 2] rfl (by decide) 1 8 rfl rfl rfl hl.1 rfl (Nat.le_of_ble_eq_true rfl) dX9_isCome_7 ⟨Nat.zero_le _, Nat.zero_le _⟩) hP hD hS hA [1, 2] [0] rfl rfl (by decide) (by decide) [0, 1, 2] (by decide) rfl rfl (fun H locs hP hD hS => ?_)
  refine lv_iconst (v := 1) hx hb dX9_isCome_10 (by decide) ?_
  refine lv_icmp_ne (tgt := 30) hx hb dX9_isCome_11 (by decide) (fun c11 => ?_) (fun c11 => ?_)
  · have hok := k_neg c11 hok
    exact J30  H locs ls hP hD hS (lv_sub hl [] rfl) hok
  · have hok := k_pos c11 hok
    refine lv_aload_n hx hb dX9_isCome_14 rfl (lv_at hl 1 rfl) ?_
    refine lv_bipush (v := 8) hx hb dX9_isCome_15 (by decide) ?_
    obtain ⟨g17, hok⟩ := gd_some hok
    refine va_iald hx hb hK hP 0 0 rfl rfl (okI_in g17) dX9_isCome_17 ?_
    refine lv_iconst (v := 1) hx hb dX9_isCome_18 (by decide) ?_
    refine lv_iadd hx hb dX9_isCome_19 ?_
    refine lv_aload_n hx hb dX9_isCome_20 rfl (lv_at hl 0 rfl) ?_
    refine va_get (D := D) (ci := 8) (v := .ref (qM 15)) (C := RX9) (T := TX9) (N := 29) hx hb ht0 niX9 hown hK hP 1 rfl rfl 15 (by decide) (ht0 _ wd854) (fun _ h9 => h9) rfl dX9_isCome_21 ?_
    refine lv_iconst (v := 0) hx hb dX9_isCome_24 (by decide) ?_
    obtain ⟨g25, hok⟩ := gd_some hok
    refine va_iald hx hb hK hP 2 0 rfl rfl (okI_in g25) dX9_isCome_25 ?_
    obtain ⟨g26, hok⟩ := gd_some hok
    refine lv_irem hx hb dX9_isCome_26 (nzI_ne g26) ?_
    refine lv_if_ne (tgt := 34) hx hb dX9_isCome_27 (by decide) (fun c27 => ?_) (fun c27 => ?_)
    · have hok := k_neg c27 hok
      refine lv_iconst (v := 0) hx hb dX9_isCome_34 (by decide) ?_
      exact J35 (0 : Int32) H locs ls hP hD hS (lv_sub hl [] rfl) hok
    · have hok := k_pos c27 hok
      exact J30  H locs ls hP hD hS (lv_sub hl [] rfl) hok
def wsX9_fixed : List Cond := .code yX9_fixed cX9_fixed 6 (some .int) :: W0
abbrev wX9_fixed (cy : Nat → ClassId) (aM : Nat) (ap1 : Nat) (qM : Nat → Nat) (vM : Nat → Int32) (vM_r : Nat → Int32) (n1 : Nat) (p1 : Nat → Int32) : va_W := [(aM, oX9 vM qM), (qM 15, rI cy 224 vM_r), (ap1, rI cy n1 p1)]
set_option maxHeartbeats 4000000 in
set_option maxRecDepth 100000 in
theorem kX9_fixed (l : Launch) (D : va_G) (cy : Nat → ClassId) (sz : Nat) (aM : Nat) (ap1 : Nat) (qM : Nat → Nat) (vM : Nat → Int32) (vM_r : Nat → Int32) (n1 : Nat) (p1 : Nat → Int32) (zr : Int32) (hok : fX9_fixed vM vM_r n1 p1 = some zr) (A : Nat → Prop) (hAe : va_A (wX9_fixed cy aM ap1 qM vM vM_r n1 p1) sz = A) : Met l yX9_fixed wsX9_fixed ({ frames := 2, cells := 0, slots := 0, locals := 45 } : Room) (kPre D cy [.ref aM, .ref ap1] (wX9_fixed cy aM ap1 qM vM vM_r n1 p1) sz) (kQi D cy zr A (wX9_fixed cy aM ap1 qM vM vM_r n1 p1)) 0 0 A := by
  refine Met.ofW (cc := cX9_fixed) (maxL := 6) (ret := (some .int)) (by decide) rfl ?_
  intro p e s m args below meth c s₁ B hml hv
  obtain ⟨rfl, hsz, hP, hK, hD0, hN⟩ := hv
  have hx := B.exec
  have hb := B.bytes
  have hr := B.returns
  have ht0 : ∀ w ∈ W0, w.before _ s = true := fun w h => atoms_spec (ws := wsX9_fixed) B.pre w (List.mem_cons_of_mem _ h)
  have hown : s.vm.findClass RX9 = some m.cls := findClass_of_methodNamed B.named
  have hlocks := B.notSynchronized
  subst hsz
  have hD : va_D A (wX9_fixed cy aM ap1 qM vM vM_r n1 p1) := by rw [← hAe]; exact hD0.self
  have hA : ∀ q : Nat, s.heap.size ≤ q → A q := fun q h => by rw [← hAe]; exact Or.inr h
  have hS : va_S A s.heap s.heap [] := va_S.rf
  have hl := lv_entry ([.ref aM, .ref ap1]) (n := 6) (Nat.le_of_ble_eq_true rfl)
  rw [lg_entry_eq]
  generalize (lg_sl ([.ref aM, .ref ap1]) ++ List.replicate (6 - (lg_sl ([.ref aM, .ref ap1])).length) Slot.unset).toArray = ls at hl ⊢
  have hl : lv_has ls 6 [(0, .ref aM), (1, .ref ap1)] := hl
  generalize hQe : MQ below (kQi D cy zr A (wX9_fixed cy aM ap1 qM vM vM_r n1 p1)) ([.ref aM, .ref ap1] : List Value).toArray s 0 0 A = Q
  have L4 : ∀ (fuel : Nat) (y2_4 : Int32) (y3_4 : Int32), ∀ (H : Heap) (locs : List Loc) (ls : Array Slot), va_P D vwCl (wX9_fixed cy aM ap1 qM vM vM_r n1 p1) H → va_D A (wX9_fixed cy aM ap1 qM vM vM_r n1 p1) → va_S A s.heap H locs → lv_has ls 6 [(0, .ref aM), (1, .ref ap1), (2, .int y2_4), (3, .int y3_4)] → lp (fX9_fixed_B4 vM vM_r n1 p1) fuel (y2_4, y3_4) = some zr → W p l e ({ frames := 2, cells := 0, slots := 0, locals := 45 } : Room) s m ([.ref aM, .ref ap1] : List Value).toArray below meth c H locs 0 0 Q (F0 m 4 ls []) := by
    intro fuel
    induction fuel with
    | zero => intro y2_4 y3_4 H locs ls hP hD hS hl hok; exact (lp_0 hok).elim
    | succ fuel ih4 =>
      intro y2_4 y3_4 H locs ls hP hD hS hl hok
      obtain ⟨y4, hok, hL4, hR4⟩ := lp_step hok
      have J138 : ∀ (t0_138 : Int32), ∀ (H : Heap) (locs : List Loc) (ls : Array Slot), va_P D vwCl (wX9_fixed cy aM ap1 qM vM vM_r n1 p1) H → va_D A (wX9_fixed cy aM ap1 qM vM vM_r n1 p1) → va_S A s.heap H locs → lv_has ls 6 [(0, .ref aM), (1, .ref ap1), (3, .int y3_4)] → fX9_fixed_J138 y2_4 y3_4 t0_138 = some y4 → W p l e ({ frames := 2, cells := 0, slots := 0, locals := 45 } : Room) s m ([.ref aM, .ref ap1] : List Value).toArray below meth c H locs 0 0 Q (F0 m 138 ls [.int t0_138, .int y2_4]) := by
        intro t0_138 H locs ls hP hD hS hl hok
        unfold fX9_fixed_J138 at hok
        refine lv_ior hx hb dX9_fixed_138 ?_
        refine lv_istore_n (lv' := [(2, .int (y2_4 ||| t0_138)), (0, .ref aM), (1, .ref ap1), (3, .int y3_4)]) hx hb dX9_fixed_139 rfl hl (by decide) rfl (fun ls hl => ?_)
        refine lv_iinc (v := (y3_4 + 1)) (lv' := [(3, .int (y3_4 + 1)), (2, .int (y2_4 ||| t0_138)), (0, .ref aM), (1, .ref ap1)]) hx hb dX9_fixed_140 hl (k := 3) rfl (by first | rfl | decide) (by decide) rfl (fun ls hl => ?_)
        refine lv_goto (tgt := 4) hx hb dX9_fixed_143 (by decide) ?_
        exact ih4 (y2_4 ||| t0_138) (y3_4 + 1) H locs ls hP hD hS (lv_sub hl [2, 3, 1, 0] rfl) (hR4 _ (Option.some.inj hok).symm)
      have J123 : ∀ (t0_123 : Int32), ∀ (H : Heap) (locs : List Loc) (ls : Array Slot), va_P D vwCl (wX9_fixed cy aM ap1 qM vM vM_r n1 p1) H → va_D A (wX9_fixed cy aM ap1 qM vM vM_r n1 p1) → va_S A s.heap H locs → lv_has ls 6 [(0, .ref aM), (1, .ref ap1), (2, .int y2_4), (3, .int y3_4)] → fX9_fixed_J123 y2_4 y3_4 t0_123 = some y4 → W p l e ({ frames := 2, cells := 0, slots := 0, locals := 45 } : Room) s m ([.ref aM, .ref ap1] : List Value).toArray below meth c H locs 0 0 Q (F0 m 123 ls [.int t0_123]) := by
        intro t0_123 H locs ls hP hD hS hl hok
        unfold fX9_fixed_J123 at hok
        refine lv_istore (lv' := [(5, .int t0_123), (0, .ref aM), (1, .ref ap1), (2, .int y2_4), (3, .int y3_4)]) hx hb dX9_fixed_123 hl (by decide) rfl (fun ls hl => ?_)
        refine lv_iload_n hx hb dX9_fixed_125 rfl (lv_at hl 3 rfl) ?_
        refine lv_iload hx hb dX9_fixed_126 (lv_at hl 0 rfl) ?_
        refine lv_if_eq (tgt := 137) hx hb dX9_fixed_128 (by decide) (fun c128 => ?_) (fun c128 => ?_)
        · have hok := k_pos c128 hok
          refine lv_iconst (v := 0) hx hb dX9_fixed_137 (by decide) ?_
          exact J138 (0 : Int32) H locs ls hP hD hS (lv_sub hl [1, 2, 4] rfl) hok
        · have hok := k_neg c128 hok
          refine lv_iconst (v := 1) hx hb dX9_fixed_131 (by decide) ?_
          refine lv_iload_n hx hb dX9_fixed_132 rfl (lv_at hl 4 rfl) ?_
          refine lv_ishl hx hb dX9_fixed_133 ?_
          refine lv_goto (tgt := 138) hx hb dX9_fixed_134 (by decide) ?_
          exact J138 (isl (1 : Int32) y3_4) H locs ls hP hD hS (lv_sub hl [1, 2, 4] rfl) hok
      have J122 : ∀ (H : Heap) (locs : List Loc) (ls : Array Slot), va_P D vwCl (wX9_fixed cy aM ap1 qM vM vM_r n1 p1) H → va_D A (wX9_fixed cy aM ap1 qM vM vM_r n1 p1) → va_S A s.heap H locs → lv_has ls 6 [(0, .ref aM), (1, .ref ap1), (2, .int y2_4), (3, .int y3_4)] → fX9_fixed_J122 y2_4 y3_4 = some y4 → W p l e ({ frames := 2, cells := 0, slots := 0, locals := 45 } : Room) s m ([.ref aM, .ref ap1] : List Value).toArray below meth c H locs 0 0 Q (F0 m 122 ls []) := by
        intro  H locs ls hP hD hS hl hok
        unfold fX9_fixed_J122 at hok
        refine lv_iconst (v := 0) hx hb dX9_fixed_122 (by decide) ?_
        exact J123 (0 : Int32) H locs ls hP hD hS (lv_sub hl [0, 1, 2, 3] rfl) hok
      have J118 : ∀ (H : Heap) (locs : List Loc) (ls : Array Slot), va_P D vwCl (wX9_fixed cy aM ap1 qM vM vM_r n1 p1) H → va_D A (wX9_fixed cy aM ap1 qM vM vM_r n1 p1) → va_S A s.heap H locs → lv_has ls 6 [(0, .ref aM), (1, .ref ap1), (2, .int y2_4), (3, .int y3_4)] → fX9_fixed_J118 y2_4 y3_4 = some y4 → W p l e ({ frames := 2, cells := 0, slots := 0, locals := 45 } : Room) s m ([.ref aM, .ref ap1] : List Value).toArray below meth c H locs 0 0 Q (F0 m 118 ls []) := by
        intro  H locs ls hP hD hS hl hok
        unfold fX9_fixed_J118 at hok
        refine lv_iconst (v := 1) hx hb dX9_fixed_118 (by decide) ?_
        refine lv_goto (tgt := 123) hx hb dX9_fixed_119 (by decide) ?_
        exact J123 (1 : Int32) H locs ls hP hD hS (lv_sub hl [0, 1, 2, 3] rfl) hok
      have J77 : ∀ (y4_77 : Int32) (t0_77 : Int32), ∀ (H : Heap) (locs : List Loc) (ls : Array Slot), va_P D vwCl (wX9_fixed cy aM ap1 qM vM vM_r n1 p1) H → va_D A (wX9_fixed cy aM ap1 qM vM vM_r n1 p1) → va_S A s.heap H locs → lv_has ls 6 [(0, .ref aM), (1, .ref ap1), (2, .int y2_4), (3, .int y3_4), (4, .int y4_77)] → fX9_fixed_J77 vM vM_r y2_4 y3_4 y4_77 t0_77 = some y4 → W p l e ({ frames := 2, cells := 0, slots := 0, locals := 45 } : Room) s m ([.ref aM, .ref ap1] : List Value).toArray below meth c H locs 0 0 Q (F0 m 77 ls [.int t0_77]) := by
        intro y4_77 t0_77 H locs ls hP hD hS hl hok
        unfold fX9_fixed_J77 at hok
        refine lv_istore (lv' := [(5, .int t0_77), (0, .ref aM), (1, .ref ap1), (2, .int y2_4), (3, .int y3_4), (4, .int y4_77)]) hx hb dX9_fixed_77 hl (by decide) rfl (fun ls hl => ?_)
        refine lv_iload hx hb dX9_fixed_79 (lv_at hl 0 rfl) ?_
        refine lv_if_ne (tgt := 118) hx hb dX9_fixed_81 (by decide) (fun c81 => ?_) (fun c81 => ?_)
        · have hok := k_neg c81 hok
          exact J118  H locs ls hP hD hS (lv_sub hl [1, 2, 3, 4] rfl) hok
        · have hok := k_pos c81 hok
          refine lv_aload_n hx hb dX9_fixed_84 rfl (lv_at hl 1 rfl) ?_
          refine lv_iload_n hx hb dX9_fixed_85 rfl (lv_at hl 4 rfl) ?_
          obtain ⟨r86, hc86, hok⟩ := k_bind hok
          refine kCi (wc := (wX9_kindOf cy aM qM vM vM_r)) (wc2 := (wX9_kindOf cy aM qM vM vM_r)) (wr := [(ap1, rI cy n1 p1)]) (ws2 := (wX9_fixed cy aM ap1 qM vM vM_r n1 p1)) (kRunV (As := [.int y3_4]) (rest := []) ⟨hx, hb, hml, hown, ht0⟩ (kX9_kindOf l D cy _ aM qM vM vM_r y3_4 r86 hc86 _ rfl) (cwV 1 ht0 (gV wd886 wd887 wd888 wd744 wd889) rfl rfl rfl (by decide +kernel) ⟨Nat.le_of_ble_eq_true rfl, Nat.le_of_ble_eq_true rfl⟩) hK hN hP hD [0, 1] rfl (by decide) 0 8 rfl rfl rfl hl.1 rfl (Nat.le_of_ble_eq_true rfl) dX9_fixed_86 ⟨Nat.zero_le _, Nat.zero_le _⟩) hP hD hS hA [0, 1] [2] rfl rfl (by decide) (by decide) [1, 2, 0] (by decide) rfl rfl (fun H locs hP hD hS => ?_)
          refine lv_iconst (v := 3) hx hb dX9_fixed_89 (by decide) ?_
          refine lv_icmp_eq (tgt := 122) hx hb dX9_fixed_90 (by decide) (fun c90 => ?_) (fun c90 => ?_)
          · have hok := k_pos c90 hok
            exact J122  H locs ls hP hD hS (lv_sub hl [1, 2, 3, 4] rfl) hok
          · have hok := k_neg c90 hok
            refine lv_iload hx hb dX9_fixed_93 (lv_at hl 5 rfl) ?_
            refine lv_if_le (tgt := 122) hx hb dX9_fixed_95 (by decide) (fun c95 => ?_) (fun c95 => ?_)
            · have hok := k_pos c95 hok
              exact J122  H locs ls hP hD hS (lv_sub hl [1, 2, 3, 4] rfl) hok
            · have hok := k_neg c95 hok
              refine lv_aload_n hx hb dX9_fixed_98 rfl (lv_at hl 1 rfl) ?_
              refine va_get (D := D) (ci := 8) (v := .ref (qM 15)) (C := RX9) (T := TX9) (N := 29) hx hb ht0 niX9 hown hK hP 0 rfl rfl 15 (by decide) (ht0 _ wd854) (fun _ h9 => h9) rfl dX9_fixed_99 ?_
              refine lv_bipush (v := 62) hx hb dX9_fixed_102 (by decide) ?_
              refine lv_iconst (v := 3) hx hb dX9_fixed_104 (by decide) ?_
              refine lv_iload_n hx hb dX9_fixed_105 rfl (lv_at hl 4 rfl) ?_
              refine lv_imul hx hb dX9_fixed_106 ?_
              refine lv_iadd hx hb dX9_fixed_107 ?_
              refine lv_iconst (v := 2) hx hb dX9_fixed_108 (by decide) ?_
              refine lv_iadd hx hb dX9_fixed_109 ?_
              obtain ⟨g110, hok⟩ := gd_some hok
              refine va_iald hx hb hK hP 1 0 rfl rfl (okI_in g110) dX9_fixed_110 ?_
              refine lv_iload hx hb dX9_fixed_111 (lv_at hl 5 rfl) ?_
              refine lv_iconst (v := 1) hx hb dX9_fixed_113 (by decide) ?_
              refine lv_isub hx hb dX9_fixed_114 ?_
              refine lv_icmp_le (tgt := 122) hx hb dX9_fixed_115 (by decide) (fun c115 => ?_) (fun c115 => ?_)
              · have hok := k_pos c115 hok
                exact J122  H locs ls hP hD hS (lv_sub hl [1, 2, 3, 4] rfl) hok
              · have hok := k_neg c115 hok
                exact J118  H locs ls hP hD hS (lv_sub hl [1, 2, 3, 4] rfl) hok
      have J76 : ∀ (y4_76 : Int32), ∀ (H : Heap) (locs : List Loc) (ls : Array Slot), va_P D vwCl (wX9_fixed cy aM ap1 qM vM vM_r n1 p1) H → va_D A (wX9_fixed cy aM ap1 qM vM vM_r n1 p1) → va_S A s.heap H locs → lv_has ls 6 [(0, .ref aM), (1, .ref ap1), (2, .int y2_4), (3, .int y3_4), (4, .int y4_76)] → fX9_fixed_J76 vM vM_r y2_4 y3_4 y4_76 = some y4 → W p l e ({ frames := 2, cells := 0, slots := 0, locals := 45 } : Room) s m ([.ref aM, .ref ap1] : List Value).toArray below meth c H locs 0 0 Q (F0 m 76 ls []) := by
        intro y4_76 H locs ls hP hD hS hl hok
        unfold fX9_fixed_J76 at hok
        refine lv_iconst (v := 0) hx hb dX9_fixed_76 (by decide) ?_
        exact J77 y4_76 (0 : Int32) H locs ls hP hD hS (lv_sub hl [0, 1, 2, 3, 4] rfl) hok
      have J72 : ∀ (y4_72 : Int32), ∀ (H : Heap) (locs : List Loc) (ls : Array Slot), va_P D vwCl (wX9_fixed cy aM ap1 qM vM vM_r n1 p1) H → va_D A (wX9_fixed cy aM ap1 qM vM vM_r n1 p1) → va_S A s.heap H locs → lv_has ls 6 [(0, .ref aM), (1, .ref ap1), (2, .int y2_4), (3, .int y3_4), (4, .int y4_72)] → fX9_fixed_J72 vM vM_r y2_4 y3_4 y4_72 = some y4 → W p l e ({ frames := 2, cells := 0, slots := 0, locals := 45 } : Room) s m ([.ref aM, .ref ap1] : List Value).toArray below meth c H locs 0 0 Q (F0 m 72 ls []) := by
        intro y4_72 H locs ls hP hD hS hl hok
        unfold fX9_fixed_J72 at hok
        refine lv_iconst (v := 1) hx hb dX9_fixed_72 (by decide) ?_
        refine lv_goto (tgt := 77) hx hb dX9_fixed_73 (by decide) ?_
        exact J77 y4_72 (1 : Int32) H locs ls hP hD hS (lv_sub hl [0, 1, 2, 3, 4] rfl) hok
      unfold fX9_fixed_B4 at hok
      try dsimp only at hok
      refine lv_iload_n hx hb dX9_fixed_4 rfl (lv_at hl 3 rfl) ?_
      refine lv_aload_n hx hb dX9_fixed_5 rfl (lv_at hl 0 rfl) ?_
      refine va_get (D := D) (ci := 8) (v := .ref (qM 15)) (C := RX9) (T := TX9) (N := 29) hx hb ht0 niX9 hown hK hP 0 rfl rfl 15 (by decide) (ht0 _ wd854) (fun _ h9 => h9) rfl dX9_fixed_6 ?_
      refine lv_iconst (v := 3) hx hb dX9_fixed_9 (by decide) ?_
      obtain ⟨g10, hok⟩ := gd_some hok
      refine va_iald hx hb hK hP 1 0 rfl rfl (okI_in g10) dX9_fixed_10 ?_
      refine lv_icmp_ge (tgt := 146) hx hb dX9_fixed_11 (by decide) (fun c11 => ?_) (fun c11 => ?_)
      · have hok := k_pos c11 hok
        obtain ⟨e4, hok, he4⟩ := ex_some hok
        have hok := hok.trans (congrArg some (hL4 _ he4))
        refine lv_iload_n hx hb dX9_fixed_146 rfl (lv_at hl 2 rfl) ?_
        cases hok
        subst hQe; exact W.iret hx hb hr (fun t ht hW => ⟨⟨_, (), rfl, rfl, by rw [ht]; exact hP, va_K.moved hW.alike hK, hD⟩, hS.F ht⟩) hS.2.2 dX9_fixed_147
      · have hok := k_neg c11 hok
        refine lv_aload_n hx hb dX9_fixed_14 rfl (lv_at hl 0 rfl) ?_
        refine va_get (D := D) (ci := 8) (v := .ref (qM 15)) (C := RX9) (T := TX9) (N := 29) hx hb ht0 niX9 hown hK hP 0 rfl rfl 15 (by decide) (ht0 _ wd854) (fun _ h9 => h9) rfl dX9_fixed_15 ?_
        refine lv_bipush (v := 16) hx hb dX9_fixed_18 (by decide) ?_
        refine lv_aload_n hx hb dX9_fixed_20 rfl (lv_at hl 0 rfl) ?_
        refine lv_aload_n hx hb dX9_fixed_21 rfl (lv_at hl 1 rfl) ?_
        refine lv_iload_n hx hb dX9_fixed_22 rfl (lv_at hl 3 rfl) ?_
        obtain ⟨g23, hok⟩ := gd_some hok
        refine va_iald hx hb hK hP 2 0 rfl rfl (okI_in g23) dX9_fixed_23 ?_
        obtain ⟨r24, hc24, hok⟩ := k_bind hok
        refine kCi (wc := (wX9_aheadOf cy aM qM vM vM_r)) (wc2 := (wX9_aheadOf cy aM qM vM vM_r)) (wr := [(ap1, rI cy n1 p1)]) (ws2 := (wX9_fixed cy aM ap1 qM vM vM_r n1 p1)) (kRunV (As := [.int (p1 y3_4.toNatClampNeg)]) (rest := [.int 16, .ref (qM 15)]) ⟨hx, hb, hml, hown, ht0⟩ (kX9_aheadOf l D cy _ aM qM vM vM_r (p1 y3_4.toNatClampNeg) r24 hc24 _ rfl) (cwV 1 ht0 (gV wd890 wd891 wd892 wd744 wd893) rfl rfl rfl (by decide +kernel) ⟨Nat.le_of_ble_eq_true rfl, Nat.le_of_ble_eq_true rfl⟩) hK hN hP hD [0, 1] rfl (by decide) 0 8 rfl rfl rfl hl.1 rfl (Nat.le_of_ble_eq_true rfl) dX9_fixed_24 ⟨Nat.zero_le _, Nat.zero_le _⟩) hP hD hS hA [0, 1] [2] rfl rfl (by decide) (by decide) [1, 2, 0] (by decide) rfl rfl (fun H locs hP hD hS => ?_)
        refine lv_iadd hx hb dX9_fixed_27 ?_
        obtain ⟨g28, hok⟩ := gd_some hok
        refine va_iald hx hb hK hP 1 0 rfl rfl (okI_in g28) dX9_fixed_28 ?_
        refine lv_istore (lv' := [(4, .int (vM_r ((16 : Int32) + r24).toNatClampNeg)), (0, .ref aM), (1, .ref ap1), (2, .int y2_4), (3, .int y3_4)]) hx hb dX9_fixed_29 hl (by decide) rfl (fun ls hl => ?_)
        refine lv_aload_n hx hb dX9_fixed_31 rfl (lv_at hl 2 rfl) ?_
        refine lv_bipush (v := 7) hx hb dX9_fixed_32 (by decide) ?_
        obtain ⟨g34, hok⟩ := gd_some hok
        refine va_iald hx hb hK hP 2 0 rfl rfl (okI_in g34) dX9_fixed_34 ?_
        refine lv_iload_n hx hb dX9_fixed_35 rfl (lv_at hl 4 rfl) ?_
        obtain ⟨r36, hc36, hok⟩ := k_bind hok
        refine kCi (wc := (wX9_hasBit cy )) (wc2 := (wX9_hasBit cy )) (wr := [(aM, oX9 vM qM), (qM 15, rI cy 224 vM_r), (ap1, rI cy n1 p1)]) (ws2 := (wX9_fixed cy aM ap1 qM vM vM_r n1 p1)) (kRunS (As := [.int (p1 (7 : Int32).toNatClampNeg), .int y3_4]) (rest := []) ⟨hx, hb, hml, hown, ht0⟩ (kX9_hasBit l D cy _ (p1 (7 : Int32).toNatClampNeg) y3_4 r36 hc36 _ rfl) (va_cwS 2 ht0 (gS wd894 wd895 wd744 wd896) rfl rfl rfl (by decide +kernel) ⟨Nat.le_of_ble_eq_true rfl, Nat.le_of_ble_eq_true rfl⟩) hK hN hP hD [] rfl (by decide) rfl hl.1 rfl (Nat.le_of_ble_eq_true rfl) dX9_fixed_36 ⟨Nat.zero_le _, Nat.zero_le _⟩) hP hD hS hA [] [0, 1, 2] rfl rfl (by decide) (by decide) [0, 1, 2] (by decide) rfl rfl (fun H locs hP hD hS => ?_)
        refine lv_if_ne (tgt := 72) hx hb dX9_fixed_39 (by decide) (fun c39 => ?_) (fun c39 => ?_)
        · have hok := k_neg c39 hok
          exact J72 (vM_r ((16 : Int32) + r24).toNatClampNeg) H locs ls hP hD hS (lv_sub hl [1, 2, 3, 4, 0] rfl) hok
        · have hok := k_pos c39 hok
          refine lv_aload_n hx hb dX9_fixed_42 rfl (lv_at hl 1 rfl) ?_
          refine lv_iload_n hx hb dX9_fixed_43 rfl (lv_at hl 4 rfl) ?_
          obtain ⟨r44, hc44, hok⟩ := k_bind hok
          refine kCi (wc := (wX9_kindOf cy aM qM vM vM_r)) (wc2 := (wX9_kindOf cy aM qM vM vM_r)) (wr := [(ap1, rI cy n1 p1)]) (ws2 := (wX9_fixed cy aM ap1 qM vM vM_r n1 p1)) (kRunV (As := [.int y3_4]) (rest := []) ⟨hx, hb, hml, hown, ht0⟩ (kX9_kindOf l D cy _ aM qM vM vM_r y3_4 r44 hc44 _ rfl) (cwV 1 ht0 (gV wd886 wd887 wd888 wd744 wd889) rfl rfl rfl (by decide +kernel) ⟨Nat.le_of_ble_eq_true rfl, Nat.le_of_ble_eq_true rfl⟩) hK hN hP hD [0, 1] rfl (by decide) 0 8 rfl rfl rfl hl.1 rfl (Nat.le_of_ble_eq_true rfl) dX9_fixed_44 ⟨Nat.zero_le _, Nat.zero_le _⟩) hP hD hS hA [0, 1] [2] rfl rfl (by decide) (by decide) [1, 2, 0] (by decide) rfl rfl (fun H locs hP hD hS => ?_)
          refine lv_iconst (v := 2) hx hb dX9_fixed_47 (by decide) ?_
          refine lv_icmp_eq (tgt := 72) hx hb dX9_fixed_48 (by decide) (fun c48 => ?_) (fun c48 => ?_)
          · have hok := k_pos c48 hok
            exact J72 (vM_r ((16 : Int32) + r24).toNatClampNeg) H locs ls hP hD hS (lv_sub hl [1, 2, 3, 4, 0] rfl) hok
          · have hok := k_neg c48 hok
            refine lv_aload_n hx hb dX9_fixed_51 rfl (lv_at hl 1 rfl) ?_
            refine lv_iload_n hx hb dX9_fixed_52 rfl (lv_at hl 4 rfl) ?_
            obtain ⟨r53, hc53, hok⟩ := k_bind hok
            refine kCi (wc := (wX9_kindOf cy aM qM vM vM_r)) (wc2 := (wX9_kindOf cy aM qM vM vM_r)) (wr := [(ap1, rI cy n1 p1)]) (ws2 := (wX9_fixed cy aM ap1 qM vM vM_r n1 p1)) (kRunV (As := [.int y3_4]) (rest := []) ⟨hx, hb, hml, hown, ht0⟩ (kX9_kindOf l D cy _ aM qM vM vM_r y3_4 r53 hc53 _ rfl) (cwV 1 ht0 (gV wd886 wd887 wd888 wd744 wd889) rfl rfl rfl (by decide +kernel) ⟨Nat.le_of_ble_eq_true rfl, Nat.le_of_ble_eq_true rfl⟩) hK hN hP hD [0, 1] rfl (by decide) 0 8 rfl rfl rfl hl.1 rfl (Nat.le_of_ble_eq_true rfl) dX9_fixed_53 ⟨Nat.zero_le _, Nat.zero_le _⟩) hP hD hS hA [0, 1] [2] rfl rfl (by decide) (by decide) [1, 2, 0] (by decide) rfl rfl (fun H locs hP hD hS => ?_)
            refine lv_iconst (v := 1) hx hb dX9_fixed_56 (by decide) ?_
            refine lv_icmp_ne (tgt := 76) hx hb dX9_fixed_57 (by decide) (fun c57 => ?_) (fun c57 => ?_)
            · have hok := k_neg c57 hok
              exact J76 (vM_r ((16 : Int32) + r24).toNatClampNeg) H locs ls hP hD hS (lv_sub hl [1, 2, 3, 4, 0] rfl) hok
            · have hok := k_pos c57 hok
              refine lv_aload_n hx hb dX9_fixed_60 rfl (lv_at hl 2 rfl) ?_
              refine lv_bipush (v := 8) hx hb dX9_fixed_61 (by decide) ?_
              obtain ⟨g63, hok⟩ := gd_some hok
              refine va_iald hx hb hK hP 2 0 rfl rfl (okI_in g63) dX9_fixed_63 ?_
              refine lv_iconst (v := 1) hx hb dX9_fixed_64 (by decide) ?_
              refine lv_iadd hx hb dX9_fixed_65 ?_
              refine lv_bipush (v := 9) hx hb dX9_fixed_66 (by decide) ?_
              refine lv_irem hx hb dX9_fixed_68 (by decide) ?_
              refine lv_if_eq (tgt := 76) hx hb dX9_fixed_69 (by decide) (fun c69 => ?_) (fun c69 => ?_)
              · have hok := k_pos c69 hok
                exact J76 (vM_r ((16 : Int32) + r24).toNatClampNeg) H locs ls hP hD hS (lv_sub hl [1, 2, 3, 4, 0] rfl) hok
              · have hok := k_neg c69 hok
                exact J72 (vM_r ((16 : Int32) + r24).toNatClampNeg) H locs ls hP hD hS (lv_sub hl [1, 2, 3, 4, 0] rfl) hok
  unfold fX9_fixed at hok
  obtain ⟨H, hH⟩ : ∃ H, H = s.heap := ⟨_, rfl⟩
  obtain ⟨locs, hlc⟩ : ∃ x : List Loc, x = [] := ⟨_, rfl⟩
  have hP : va_P D vwCl (wX9_fixed cy aM ap1 qM vM vM_r n1 p1) H := by rw [hH]; exact hP
  have hS : va_S A s.heap H locs := by rw [hH, hlc]; exact hS
  rw [show W p l e _ s m _ below meth c s.heap [] = W p l e _ s m _ below meth c H locs from by rw [hH, hlc]]
  refine lv_iconst (v := 0) hx hb dX9_fixed_0 (by decide) ?_
  refine lv_istore_n (lv' := [(2, .int 0), (0, .ref aM), (1, .ref ap1)]) hx hb dX9_fixed_1 rfl hl (by decide) rfl (fun ls hl => ?_)
  refine lv_iconst (v := 0) hx hb dX9_fixed_2 (by decide) ?_
  refine lv_istore_n (lv' := [(3, .int 0), (2, .int 0), (0, .ref aM), (1, .ref ap1)]) hx hb dX9_fixed_3 rfl hl (by decide) rfl (fun ls hl => ?_)
  exact L4 5000 (0 : Int32) (0 : Int32) H locs ls hP hD hS (lv_sub hl [2, 3, 1, 0] rfl) hok
def wsX9_goingBy : List Cond := .code yX9_goingBy cX9_goingBy 7 (some .int) :: W0
abbrev wX9_goingBy (cy : Nat → ClassId) (aM : Nat) (ap1 : Nat) (qM : Nat → Nat) (vM : Nat → Int32) (vM_r : Nat → Int32) (n1 : Nat) (p1 : Nat → Int32) : va_W := [(aM, oX9 vM qM), (qM 15, rI cy 224 vM_r), (ap1, rI cy n1 p1)]
set_option maxHeartbeats 4000000 in
set_option maxRecDepth 100000 in
theorem kX9_goingBy (l : Launch) (D : va_G) (cy : Nat → ClassId) (sz : Nat) (aM : Nat) (ap1 : Nat) (qM : Nat → Nat) (vM : Nat → Int32) (vM_r : Nat → Int32) (n1 : Nat) (p1 : Nat → Int32) (x2 : Int32) (zr : Int32) (hok : fX9_goingBy vM vM_r n1 p1 x2 = some zr) (A : Nat → Prop) (hAe : va_A (wX9_goingBy cy aM ap1 qM vM vM_r n1 p1) sz = A) : Met l yX9_goingBy wsX9_goingBy ({ frames := 2, cells := 0, slots := 0, locals := 45 } : Room) (kPre D cy [.ref aM, .ref ap1, .int x2] (wX9_goingBy cy aM ap1 qM vM vM_r n1 p1) sz) (kQi D cy zr A (wX9_goingBy cy aM ap1 qM vM vM_r n1 p1)) 0 0 A := by
  refine Met.ofW (cc := cX9_goingBy) (maxL := 7) (ret := (some .int)) (by decide) rfl ?_
  intro p e s m args below meth c s₁ B hml hv
  obtain ⟨rfl, hsz, hP, hK, hD0, hN⟩ := hv
  have hx := B.exec
  have hb := B.bytes
  have hr := B.returns
  have ht0 : ∀ w ∈ W0, w.before _ s = true := fun w h => atoms_spec (ws := wsX9_goingBy) B.pre w (List.mem_cons_of_mem _ h)
  have hown : s.vm.findClass RX9 = some m.cls := findClass_of_methodNamed B.named
  have hlocks := B.notSynchronized
  subst hsz
  have hD : va_D A (wX9_goingBy cy aM ap1 qM vM vM_r n1 p1) := by rw [← hAe]; exact hD0.self
  have hA : ∀ q : Nat, s.heap.size ≤ q → A q := fun q h => by rw [← hAe]; exact Or.inr h
  have hS : va_S A s.heap s.heap [] := va_S.rf
  have hl := lv_entry ([.ref aM, .ref ap1, .int x2]) (n := 7) (Nat.le_of_ble_eq_true rfl)
  rw [lg_entry_eq]
  generalize (lg_sl ([.ref aM, .ref ap1, .int x2]) ++ List.replicate (7 - (lg_sl ([.ref aM, .ref ap1, .int x2])).length) Slot.unset).toArray = ls at hl ⊢
  have hl : lv_has ls 7 [(0, .ref aM), (1, .ref ap1), (2, .int x2)] := hl
  generalize hQe : MQ below (kQi D cy zr A (wX9_goingBy cy aM ap1 qM vM vM_r n1 p1)) ([.ref aM, .ref ap1, .int x2] : List Value).toArray s 0 0 A = Q
  have L84 : ∀ (fuel : Nat) (y3_84 : Int32) (y5_84 : Int32) (y6_84 : Int32), ∀ (H : Heap) (locs : List Loc) (ls : Array Slot), va_P D vwCl (wX9_goingBy cy aM ap1 qM vM vM_r n1 p1) H → va_D A (wX9_goingBy cy aM ap1 qM vM vM_r n1 p1) → va_S A s.heap H locs → lv_has ls 7 [(0, .ref aM), (1, .ref ap1), (3, .int y3_84), (5, .int y5_84), (6, .int y6_84)] → lp (fX9_goingBy_B84 vM vM_r n1 p1) fuel (y3_84, y5_84, y6_84) = some zr → W p l e ({ frames := 2, cells := 0, slots := 0, locals := 45 } : Room) s m ([.ref aM, .ref ap1, .int x2] : List Value).toArray below meth c H locs 0 0 Q (F0 m 84 ls []) := by
    intro fuel
    induction fuel with
    | zero => intro y3_84 y5_84 y6_84 H locs ls hP hD hS hl hok; exact (lp_0 hok).elim
    | succ fuel ih84 =>
      intro y3_84 y5_84 y6_84 H locs ls hP hD hS hl hok
      obtain ⟨y84, hok, hL84, hR84⟩ := lp_step hok
      have J124 : ∀ (t0_124 : Int32), ∀ (H : Heap) (locs : List Loc) (ls : Array Slot), va_P D vwCl (wX9_goingBy cy aM ap1 qM vM vM_r n1 p1) H → va_D A (wX9_goingBy cy aM ap1 qM vM vM_r n1 p1) → va_S A s.heap H locs → lv_has ls 7 [(0, .ref aM), (1, .ref ap1), (3, .int y3_84), (6, .int y6_84)] → fX9_goingBy_J124 y3_84 y5_84 y6_84 t0_124 = some y84 → W p l e ({ frames := 2, cells := 0, slots := 0, locals := 45 } : Room) s m ([.ref aM, .ref ap1, .int x2] : List Value).toArray below meth c H locs 0 0 Q (F0 m 124 ls [.int t0_124, .int y5_84]) := by
        intro t0_124 H locs ls hP hD hS hl hok
        unfold fX9_goingBy_J124 at hok
        refine lv_ior hx hb dX9_goingBy_124 ?_
        refine lv_istore (lv' := [(5, .int (y5_84 ||| t0_124)), (0, .ref aM), (1, .ref ap1), (3, .int y3_84), (6, .int y6_84)]) hx hb dX9_goingBy_125 hl (by decide) rfl (fun ls hl => ?_)
        refine lv_iinc (v := (y6_84 + 1)) (lv' := [(6, .int (y6_84 + 1)), (5, .int (y5_84 ||| t0_124)), (0, .ref aM), (1, .ref ap1), (3, .int y3_84)]) hx hb dX9_goingBy_127 hl (k := 4) rfl (by first | rfl | decide) (by decide) rfl (fun ls hl => ?_)
        refine lv_goto (tgt := 84) hx hb dX9_goingBy_130 (by decide) ?_
        exact ih84 y3_84 (y5_84 ||| t0_124) (y6_84 + 1) H locs ls hP hD hS (lv_sub hl [2, 3, 4, 1, 0] rfl) (hR84 _ (Option.some.inj hok).symm)
      have J123 : ∀ (H : Heap) (locs : List Loc) (ls : Array Slot), va_P D vwCl (wX9_goingBy cy aM ap1 qM vM vM_r n1 p1) H → va_D A (wX9_goingBy cy aM ap1 qM vM vM_r n1 p1) → va_S A s.heap H locs → lv_has ls 7 [(0, .ref aM), (1, .ref ap1), (3, .int y3_84), (6, .int y6_84)] → fX9_goingBy_J123 y3_84 y5_84 y6_84 = some y84 → W p l e ({ frames := 2, cells := 0, slots := 0, locals := 45 } : Room) s m ([.ref aM, .ref ap1, .int x2] : List Value).toArray below meth c H locs 0 0 Q (F0 m 123 ls [.int y5_84]) := by
        intro  H locs ls hP hD hS hl hok
        unfold fX9_goingBy_J123 at hok
        refine lv_iconst (v := 0) hx hb dX9_goingBy_123 (by decide) ?_
        exact J124 (0 : Int32) H locs ls hP hD hS (lv_sub hl [0, 1, 2, 3] rfl) hok
      unfold fX9_goingBy_B84 at hok
      try dsimp only at hok
      refine lv_iload hx hb dX9_goingBy_84 (lv_at hl 4 rfl) ?_
      refine lv_aload_n hx hb dX9_goingBy_86 rfl (lv_at hl 0 rfl) ?_
      refine va_get (D := D) (ci := 8) (v := .ref (qM 15)) (C := RX9) (T := TX9) (N := 29) hx hb ht0 niX9 hown hK hP 0 rfl rfl 15 (by decide) (ht0 _ wd854) (fun _ h9 => h9) rfl dX9_goingBy_87 ?_
      refine lv_iconst (v := 3) hx hb dX9_goingBy_90 (by decide) ?_
      obtain ⟨g91, hok⟩ := gd_some hok
      refine va_iald hx hb hK hP 1 0 rfl rfl (okI_in g91) dX9_goingBy_91 ?_
      refine lv_icmp_ge (tgt := 133) hx hb dX9_goingBy_92 (by decide) (fun c92 => ?_) (fun c92 => ?_)
      · have hok := k_pos c92 hok
        obtain ⟨e84, hok, he84⟩ := ex_some hok
        have hok := hok.trans (congrArg some (hL84 _ he84))
        refine lv_iload hx hb dX9_goingBy_133 (lv_at hl 3 rfl) ?_
        cases hok
        subst hQe; exact W.iret hx hb hr (fun t ht hW => ⟨⟨_, (), rfl, rfl, by rw [ht]; exact hP, va_K.moved hW.alike hK, hD⟩, hS.F ht⟩) hS.2.2 dX9_goingBy_135
      · have hok := k_neg c92 hok
        refine lv_iload hx hb dX9_goingBy_95 (lv_at hl 3 rfl) ?_
        refine lv_iload_n hx hb dX9_goingBy_97 rfl (lv_at hl 2 rfl) ?_
        refine lv_iload hx hb dX9_goingBy_98 (lv_at hl 4 rfl) ?_
        obtain ⟨r100, hc100, hok⟩ := k_bind hok
        refine kCi (wc := (wX9_hasBit cy )) (wc2 := (wX9_hasBit cy )) (wr := [(aM, oX9 vM qM), (qM 15, rI cy 224 vM_r), (ap1, rI cy n1 p1)]) (ws2 := (wX9_goingBy cy aM ap1 qM vM vM_r n1 p1)) (kRunS (As := [.int y3_84, .int y6_84]) (rest := [.int y5_84]) ⟨hx, hb, hml, hown, ht0⟩ (kX9_hasBit l D cy _ y3_84 y6_84 r100 hc100 _ rfl) (va_cwS 2 ht0 (gS wd894 wd895 wd744 wd896) rfl rfl rfl (by decide +kernel) ⟨Nat.le_of_ble_eq_true rfl, Nat.le_of_ble_eq_true rfl⟩) hK hN hP hD [] rfl (by decide) rfl hl.1 rfl (Nat.le_of_ble_eq_true rfl) dX9_goingBy_100 ⟨Nat.zero_le _, Nat.zero_le _⟩) hP hD hS hA [] [0, 1, 2] rfl rfl (by decide) (by decide) [0, 1, 2] (by decide) rfl rfl (fun H locs hP hD hS => ?_)
        refine lv_if_ne (tgt := 123) hx hb dX9_goingBy_103 (by decide) (fun c103 => ?_) (fun c103 => ?_)
        · have hok := k_neg c103 hok
          exact J123  H locs ls hP hD hS (lv_sub hl [0, 1, 2, 4] rfl) hok
        · have hok := k_pos c103 hok
          refine lv_aload_n hx hb dX9_goingBy_106 rfl (lv_at hl 0 rfl) ?_
          refine lv_aload_n hx hb dX9_goingBy_107 rfl (lv_at hl 1 rfl) ?_
          refine lv_iload hx hb dX9_goingBy_108 (lv_at hl 4 rfl) ?_
          obtain ⟨r110, hc110, hok⟩ := k_bind hok
          refine kCi (wc := (wX9_isCome cy aM ap1 qM n1 p1 vM vM_r)) (wc2 := (wX9_isCome cy aM ap1 qM n1 p1 vM vM_r)) (wr := []) (ws2 := (wX9_goingBy cy aM ap1 qM vM vM_r n1 p1)) (kRunV (As := [.ref ap1, .int y6_84]) (rest := [.int y5_84]) ⟨hx, hb, hml, hown, ht0⟩ (kX9_isCome l D cy _ aM ap1 qM n1 p1 vM vM_r y6_84 r110 hc110 _ rfl) (cwV 2 ht0 (gV wd897 wd898 wd899 wd744 wd900) rfl rfl rfl (by decide +kernel) ⟨Nat.le_of_ble_eq_true rfl, Nat.le_of_ble_eq_true rfl⟩) hK hN hP hD [2, 0, 1] rfl (by decide) 0 8 rfl rfl rfl hl.1 rfl (Nat.le_of_ble_eq_true rfl) dX9_goingBy_110 ⟨Nat.zero_le _, Nat.zero_le _⟩) hP hD hS hA [2, 0, 1] [] rfl rfl (by decide) (by decide) [1, 2, 0] (by decide) rfl rfl (fun H locs hP hD hS => ?_)
          refine lv_if_eq (tgt := 123) hx hb dX9_goingBy_113 (by decide) (fun c113 => ?_) (fun c113 => ?_)
          · have hok := k_pos c113 hok
            exact J123  H locs ls hP hD hS (lv_sub hl [0, 1, 2, 4] rfl) hok
          · have hok := k_neg c113 hok
            refine lv_iconst (v := 1) hx hb dX9_goingBy_116 (by decide) ?_
            refine lv_iload hx hb dX9_goingBy_117 (lv_at hl 4 rfl) ?_
            refine lv_ishl hx hb dX9_goingBy_119 ?_
            refine lv_goto (tgt := 124) hx hb dX9_goingBy_120 (by decide) ?_
            exact J124 (isl (1 : Int32) y6_84) H locs ls hP hD hS (lv_sub hl [0, 1, 2, 4] rfl) hok
  have L5 : ∀ (fuel : Nat) (y3_5 : Int32) (y4_5 : Int32), ∀ (H : Heap) (locs : List Loc) (ls : Array Slot), va_P D vwCl (wX9_goingBy cy aM ap1 qM vM vM_r n1 p1) H → va_D A (wX9_goingBy cy aM ap1 qM vM vM_r n1 p1) → va_S A s.heap H locs → lv_has ls 7 [(0, .ref aM), (1, .ref ap1), (3, .int y3_5), (4, .int y4_5)] → lp (fX9_goingBy_B5 vM vM_r n1 p1) fuel (y3_5, y4_5) = some zr → W p l e ({ frames := 2, cells := 0, slots := 0, locals := 45 } : Room) s m ([.ref aM, .ref ap1, .int x2] : List Value).toArray below meth c H locs 0 0 Q (F0 m 5 ls []) := by
    intro fuel
    induction fuel with
    | zero => intro y3_5 y4_5 H locs ls hP hD hS hl hok; exact (lp_0 hok).elim
    | succ fuel ih5 =>
      intro y3_5 y4_5 H locs ls hP hD hS hl hok
      obtain ⟨y5, hok, hL5, hR5⟩ := lp_step hok
      have L17 : ∀ (fuel : Nat) (y3_17 : Int32) (y5_17 : Int32), ∀ (H : Heap) (locs : List Loc) (ls : Array Slot), va_P D vwCl (wX9_goingBy cy aM ap1 qM vM vM_r n1 p1) H → va_D A (wX9_goingBy cy aM ap1 qM vM vM_r n1 p1) → va_S A s.heap H locs → lv_has ls 7 [(0, .ref aM), (1, .ref ap1), (3, .int y3_17), (4, .int y3_5), (5, .int y5_17)] → lp (fX9_goingBy_B17 vM vM_r n1 p1 y3_5) fuel (y3_17, y5_17) = some y5 → W p l e ({ frames := 2, cells := 0, slots := 0, locals := 45 } : Room) s m ([.ref aM, .ref ap1, .int x2] : List Value).toArray below meth c H locs 0 0 Q (F0 m 17 ls []) := by
        intro fuel
        induction fuel with
        | zero => intro y3_17 y5_17 H locs ls hP hD hS hl hok; exact (lp_0 hok).elim
        | succ fuel ih17 =>
          intro y3_17 y5_17 H locs ls hP hD hS hl hok
          obtain ⟨y17, hok, hL17, hR17⟩ := lp_step hok
          have J67 : ∀ (t0_67 : Int32), ∀ (H : Heap) (locs : List Loc) (ls : Array Slot), va_P D vwCl (wX9_goingBy cy aM ap1 qM vM vM_r n1 p1) H → va_D A (wX9_goingBy cy aM ap1 qM vM vM_r n1 p1) → va_S A s.heap H locs → lv_has ls 7 [(0, .ref aM), (1, .ref ap1), (4, .int y3_5), (5, .int y5_17)] → fX9_goingBy_J67 y3_17 y5_17 t0_67 = some y17 → W p l e ({ frames := 2, cells := 0, slots := 0, locals := 45 } : Room) s m ([.ref aM, .ref ap1, .int x2] : List Value).toArray below meth c H locs 0 0 Q (F0 m 67 ls [.int t0_67, .int y3_17]) := by
            intro t0_67 H locs ls hP hD hS hl hok
            unfold fX9_goingBy_J67 at hok
            refine lv_ior hx hb dX9_goingBy_67 ?_
            refine lv_istore_n (lv' := [(3, .int (y3_17 ||| t0_67)), (0, .ref aM), (1, .ref ap1), (4, .int y3_5), (5, .int y5_17)]) hx hb dX9_goingBy_68 rfl hl (by decide) rfl (fun ls hl => ?_)
            refine lv_iinc (v := (y5_17 + 1)) (lv' := [(5, .int (y5_17 + 1)), (3, .int (y3_17 ||| t0_67)), (0, .ref aM), (1, .ref ap1), (4, .int y3_5)]) hx hb dX9_goingBy_69 hl (k := 4) rfl (by first | rfl | decide) (by decide) rfl (fun ls hl => ?_)
            refine lv_goto (tgt := 17) hx hb dX9_goingBy_72 (by decide) ?_
            exact ih17 (y3_17 ||| t0_67) (y5_17 + 1) H locs ls hP hD hS (lv_sub hl [2, 3, 1, 4, 0] rfl) (hR17 _ (Option.some.inj hok).symm)
          have J66 : ∀ (H : Heap) (locs : List Loc) (ls : Array Slot), va_P D vwCl (wX9_goingBy cy aM ap1 qM vM vM_r n1 p1) H → va_D A (wX9_goingBy cy aM ap1 qM vM vM_r n1 p1) → va_S A s.heap H locs → lv_has ls 7 [(0, .ref aM), (1, .ref ap1), (4, .int y3_5), (5, .int y5_17)] → fX9_goingBy_J66 y3_17 y5_17 = some y17 → W p l e ({ frames := 2, cells := 0, slots := 0, locals := 45 } : Room) s m ([.ref aM, .ref ap1, .int x2] : List Value).toArray below meth c H locs 0 0 Q (F0 m 66 ls [.int y3_17]) := by
            intro  H locs ls hP hD hS hl hok
            unfold fX9_goingBy_J66 at hok
            refine lv_iconst (v := 0) hx hb dX9_goingBy_66 (by decide) ?_
            exact J67 (0 : Int32) H locs ls hP hD hS (lv_sub hl [0, 1, 2, 3] rfl) hok
          unfold fX9_goingBy_B17 at hok
          try dsimp only at hok
          refine lv_iload hx hb dX9_goingBy_17 (lv_at hl 4 rfl) ?_
          refine lv_aload_n hx hb dX9_goingBy_19 rfl (lv_at hl 0 rfl) ?_
          refine va_get (D := D) (ci := 8) (v := .ref (qM 15)) (C := RX9) (T := TX9) (N := 29) hx hb ht0 niX9 hown hK hP 0 rfl rfl 15 (by decide) (ht0 _ wd854) (fun _ h9 => h9) rfl dX9_goingBy_20 ?_
          refine lv_iconst (v := 3) hx hb dX9_goingBy_23 (by decide) ?_
          obtain ⟨g24, hok⟩ := gd_some hok
          refine va_iald hx hb hK hP 1 0 rfl rfl (okI_in g24) dX9_goingBy_24 ?_
          refine lv_icmp_ge (tgt := 75) hx hb dX9_goingBy_25 (by decide) (fun c25 => ?_) (fun c25 => ?_)
          · have hok := k_pos c25 hok
            obtain ⟨e17, hok, he17⟩ := ex_some hok
            have hok := hok.trans (congrArg some (hL17 _ he17))
            refine lv_goto (tgt := 5) hx hb dX9_goingBy_75 (by decide) ?_
            exact ih5 y3_17 y3_5 H locs ls hP hD hS (lv_sub hl [0, 1, 2, 3] rfl) (hR5 _ (Option.some.inj hok).symm)
          · have hok := k_neg c25 hok
            refine lv_aload_n hx hb dX9_goingBy_28 rfl (lv_at hl 0 rfl) ?_
            refine lv_aload_n hx hb dX9_goingBy_29 rfl (lv_at hl 1 rfl) ?_
            refine lv_aload_n hx hb dX9_goingBy_30 rfl (lv_at hl 0 rfl) ?_
            refine lv_aload_n hx hb dX9_goingBy_31 rfl (lv_at hl 1 rfl) ?_
            refine lv_iload hx hb dX9_goingBy_32 (lv_at hl 4 rfl) ?_
            obtain ⟨g34, hok⟩ := gd_some hok
            refine va_iald hx hb hK hP 2 0 rfl rfl (okI_in g34) dX9_goingBy_34 ?_
            obtain ⟨r35, hc35, hok⟩ := k_bind hok
            refine kCi (wc := (wX9_aheadOf cy aM qM vM vM_r)) (wc2 := (wX9_aheadOf cy aM qM vM vM_r)) (wr := [(ap1, rI cy n1 p1)]) (ws2 := (wX9_goingBy cy aM ap1 qM vM vM_r n1 p1)) (kRunV (As := [.int (p1 y5_17.toNatClampNeg)]) (rest := [.ref ap1, .ref aM]) ⟨hx, hb, hml, hown, ht0⟩ (kX9_aheadOf l D cy _ aM qM vM vM_r (p1 y5_17.toNatClampNeg) r35 hc35 _ rfl) (cwV 1 ht0 (gV wd890 wd891 wd892 wd744 wd893) rfl rfl rfl (by decide +kernel) ⟨Nat.le_of_ble_eq_true rfl, Nat.le_of_ble_eq_true rfl⟩) hK hN hP hD [0, 1] rfl (by decide) 0 8 rfl rfl rfl hl.1 rfl (Nat.le_of_ble_eq_true rfl) dX9_goingBy_35 ⟨Nat.zero_le _, Nat.zero_le _⟩) hP hD hS hA [0, 1] [2] rfl rfl (by decide) (by decide) [1, 2, 0] (by decide) rfl rfl (fun H locs hP hD hS => ?_)
            obtain ⟨r38, hc38, hok⟩ := k_bind hok
            refine kCi (wc := (wX9_thingAt cy aM ap1 qM vM vM_r n1 p1)) (wc2 := (wX9_thingAt cy aM ap1 qM vM vM_r n1 p1)) (wr := []) (ws2 := (wX9_goingBy cy aM ap1 qM vM vM_r n1 p1)) (kRunV (As := [.ref ap1, .int r35]) (rest := []) ⟨hx, hb, hml, hown, ht0⟩ (kX9_thingAt l D cy _ aM ap1 qM vM vM_r n1 p1 r35 r38 hc38 _ rfl) (cwV 2 ht0 (gV wd901 wd902 wd903 wd744 wd904) rfl rfl rfl (by decide +kernel) ⟨Nat.le_of_ble_eq_true rfl, Nat.le_of_ble_eq_true rfl⟩) hK hN hP hD [0, 1, 2] rfl (by decide) 0 8 rfl rfl rfl hl.1 rfl (Nat.le_of_ble_eq_true rfl) dX9_goingBy_38 ⟨Nat.zero_le _, Nat.zero_le _⟩) hP hD hS hA [0, 1, 2] [] rfl rfl (by decide) (by decide) [0, 1, 2] (by decide) rfl rfl (fun H locs hP hD hS => ?_)
            refine lv_istore (lv' := [(6, .int r38), (0, .ref aM), (1, .ref ap1), (3, .int y3_17), (4, .int y3_5), (5, .int y5_17)]) hx hb dX9_goingBy_41 hl (by decide) rfl (fun ls hl => ?_)
            refine lv_iload_n hx hb dX9_goingBy_43 rfl (lv_at hl 3 rfl) ?_
            refine lv_iload hx hb dX9_goingBy_44 (lv_at hl 0 rfl) ?_
            refine lv_if_lt (tgt := 66) hx hb dX9_goingBy_46 (by decide) (fun c46 => ?_) (fun c46 => ?_)
            · have hok := k_pos c46 hok
              exact J66  H locs ls hP hD hS (lv_sub hl [1, 2, 4, 5] rfl) hok
            · have hok := k_neg c46 hok
              refine lv_iload hx hb dX9_goingBy_49 (lv_at hl 4 rfl) ?_
              refine lv_iload hx hb dX9_goingBy_51 (lv_at hl 0 rfl) ?_
              obtain ⟨r53, hc53, hok⟩ := k_bind hok
              refine kCi (wc := (wX9_hasBit cy )) (wc2 := (wX9_hasBit cy )) (wr := [(aM, oX9 vM qM), (qM 15, rI cy 224 vM_r), (ap1, rI cy n1 p1)]) (ws2 := (wX9_goingBy cy aM ap1 qM vM vM_r n1 p1)) (kRunS (As := [.int y3_5, .int r38]) (rest := [.int y3_17]) ⟨hx, hb, hml, hown, ht0⟩ (kX9_hasBit l D cy _ y3_5 r38 r53 hc53 _ rfl) (va_cwS 2 ht0 (gS wd894 wd895 wd744 wd896) rfl rfl rfl (by decide +kernel) ⟨Nat.le_of_ble_eq_true rfl, Nat.le_of_ble_eq_true rfl⟩) hK hN hP hD [] rfl (by decide) rfl hl.1 rfl (Nat.le_of_ble_eq_true rfl) dX9_goingBy_53 ⟨Nat.zero_le _, Nat.zero_le _⟩) hP hD hS hA [] [0, 1, 2] rfl rfl (by decide) (by decide) [0, 1, 2] (by decide) rfl rfl (fun H locs hP hD hS => ?_)
              refine lv_if_eq (tgt := 66) hx hb dX9_goingBy_56 (by decide) (fun c56 => ?_) (fun c56 => ?_)
              · have hok := k_pos c56 hok
                exact J66  H locs ls hP hD hS (lv_sub hl [1, 2, 4, 5] rfl) hok
              · have hok := k_neg c56 hok
                refine lv_iconst (v := 1) hx hb dX9_goingBy_59 (by decide) ?_
                refine lv_iload hx hb dX9_goingBy_60 (lv_at hl 5 rfl) ?_
                refine lv_ishl hx hb dX9_goingBy_62 ?_
                refine lv_goto (tgt := 67) hx hb dX9_goingBy_63 (by decide) ?_
                exact J67 (isl (1 : Int32) y5_17) H locs ls hP hD hS (lv_sub hl [1, 2, 4, 5] rfl) hok
      unfold fX9_goingBy_B5 at hok
      try dsimp only at hok
      refine lv_iload hx hb dX9_goingBy_5 (lv_at hl 3 rfl) ?_
      refine lv_iload_n hx hb dX9_goingBy_7 rfl (lv_at hl 2 rfl) ?_
      refine lv_icmp_eq (tgt := 78) hx hb dX9_goingBy_8 (by decide) (fun c8 => ?_) (fun c8 => ?_)
      · have hok := k_pos c8 hok
        obtain ⟨e5, hok, he5⟩ := ex_some hok
        have hok := hok.trans (congrArg some (hL5 _ he5))
        refine lv_iconst (v := 0) hx hb dX9_goingBy_78 (by decide) ?_
        refine lv_istore (lv' := [(5, .int 0), (0, .ref aM), (1, .ref ap1), (3, .int y3_5), (4, .int y4_5)]) hx hb dX9_goingBy_79 hl (by decide) rfl (fun ls hl => ?_)
        refine lv_iconst (v := 0) hx hb dX9_goingBy_81 (by decide) ?_
        refine lv_istore (lv' := [(6, .int 0), (5, .int 0), (0, .ref aM), (1, .ref ap1), (3, .int y3_5), (4, .int y4_5)]) hx hb dX9_goingBy_82 hl (by decide) rfl (fun ls hl => ?_)
        exact L84 5000 y3_5 (0 : Int32) (0 : Int32) H locs ls hP hD hS (lv_sub hl [2, 3, 4, 1, 0] rfl) hok
      · have hok := k_neg c8 hok
        refine lv_iload_n hx hb dX9_goingBy_11 rfl (lv_at hl 2 rfl) ?_
        refine lv_istore (lv' := [(4, .int y3_5), (0, .ref aM), (1, .ref ap1), (3, .int y3_5)]) hx hb dX9_goingBy_12 hl (by decide) rfl (fun ls hl => ?_)
        refine lv_iconst (v := 0) hx hb dX9_goingBy_14 (by decide) ?_
        refine lv_istore (lv' := [(5, .int 0), (4, .int y3_5), (0, .ref aM), (1, .ref ap1), (3, .int y3_5)]) hx hb dX9_goingBy_15 hl (by decide) rfl (fun ls hl => ?_)
        exact L17 5000 y3_5 (0 : Int32) H locs ls hP hD hS (lv_sub hl [2, 3, 4, 1, 0] rfl) hok
  unfold fX9_goingBy at hok
  obtain ⟨H, hH⟩ : ∃ H, H = s.heap := ⟨_, rfl⟩
  obtain ⟨locs, hlc⟩ : ∃ x : List Loc, x = [] := ⟨_, rfl⟩
  have hP : va_P D vwCl (wX9_goingBy cy aM ap1 qM vM vM_r n1 p1) H := by rw [hH]; exact hP
  have hS : va_S A s.heap H locs := by rw [hH, hlc]; exact hS
  rw [show W p l e _ s m _ below meth c s.heap [] = W p l e _ s m _ below meth c H locs from by rw [hH, hlc]]
  refine lv_iload_n hx hb dX9_goingBy_0 rfl (lv_at hl 2 rfl) ?_
  refine lv_istore_n (lv' := [(3, .int x2), (0, .ref aM), (1, .ref ap1), (2, .int x2)]) hx hb dX9_goingBy_1 rfl hl (by decide) rfl (fun ls hl => ?_)
  refine lv_iconst (v := -1) hx hb dX9_goingBy_2 (by decide) ?_
  refine lv_istore (lv' := [(4, .int (-1)), (3, .int x2), (0, .ref aM), (1, .ref ap1), (2, .int x2)]) hx hb dX9_goingBy_3 hl (by decide) rfl (fun ls hl => ?_)
  exact L5 5000 x2 (-1 : Int32) H locs ls hP hD hS (lv_sub hl [2, 3, 1, 0] rfl) hok
def wsX9_going : List Cond := .code yX9_going cX9_going 2 (some .int) :: W0
abbrev wX9_going (cy : Nat → ClassId) (aM : Nat) (ap1 : Nat) (qM : Nat → Nat) (vM : Nat → Int32) (vM_r : Nat → Int32) (n1 : Nat) (p1 : Nat → Int32) : va_W := [(aM, oX9 vM qM), (qM 15, rI cy 224 vM_r), (ap1, rI cy n1 p1)]
set_option maxHeartbeats 4000000 in
set_option maxRecDepth 100000 in
theorem kX9_going (l : Launch) (D : va_G) (cy : Nat → ClassId) (sz : Nat) (aM : Nat) (ap1 : Nat) (qM : Nat → Nat) (vM : Nat → Int32) (vM_r : Nat → Int32) (n1 : Nat) (p1 : Nat → Int32) (zr : Int32) (hok : fX9_going vM vM_r n1 p1 = some zr) (A : Nat → Prop) (hAe : va_A (wX9_going cy aM ap1 qM vM vM_r n1 p1) sz = A) : Met l yX9_going wsX9_going ({ frames := 3, cells := 0, slots := 0, locals := 71 } : Room) (kPre D cy [.ref aM, .ref ap1] (wX9_going cy aM ap1 qM vM vM_r n1 p1) sz) (kQi D cy zr A (wX9_going cy aM ap1 qM vM vM_r n1 p1)) 0 0 A := by
  refine Met.ofW (cc := cX9_going) (maxL := 2) (ret := (some .int)) (by decide) rfl ?_
  intro p e s m args below meth c s₁ B hml hv
  obtain ⟨rfl, hsz, hP, hK, hD0, hN⟩ := hv
  have hx := B.exec
  have hb := B.bytes
  have hr := B.returns
  have ht0 : ∀ w ∈ W0, w.before _ s = true := fun w h => atoms_spec (ws := wsX9_going) B.pre w (List.mem_cons_of_mem _ h)
  have hown : s.vm.findClass RX9 = some m.cls := findClass_of_methodNamed B.named
  have hlocks := B.notSynchronized
  subst hsz
  have hD : va_D A (wX9_going cy aM ap1 qM vM vM_r n1 p1) := by rw [← hAe]; exact hD0.self
  have hA : ∀ q : Nat, s.heap.size ≤ q → A q := fun q h => by rw [← hAe]; exact Or.inr h
  have hS : va_S A s.heap s.heap [] := va_S.rf
  have hl := lv_entry ([.ref aM, .ref ap1]) (n := 2) (Nat.le_of_ble_eq_true rfl)
  rw [lg_entry_eq]
  generalize (lg_sl ([.ref aM, .ref ap1]) ++ List.replicate (2 - (lg_sl ([.ref aM, .ref ap1])).length) Slot.unset).toArray = ls at hl ⊢
  have hl : lv_has ls 2 [(0, .ref aM), (1, .ref ap1)] := hl
  unfold fX9_going at hok
  obtain ⟨H, hH⟩ : ∃ H, H = s.heap := ⟨_, rfl⟩
  obtain ⟨locs, hlc⟩ : ∃ x : List Loc, x = [] := ⟨_, rfl⟩
  have hP : va_P D vwCl (wX9_going cy aM ap1 qM vM vM_r n1 p1) H := by rw [hH]; exact hP
  have hS : va_S A s.heap H locs := by rw [hH, hlc]; exact hS
  rw [show W p l e _ s m _ below meth c s.heap [] = W p l e _ s m _ below meth c H locs from by rw [hH, hlc]]
  refine lv_aload_n hx hb dX9_going_0 rfl (lv_at hl 0 rfl) ?_
  refine lv_aload_n hx hb dX9_going_1 rfl (lv_at hl 1 rfl) ?_
  refine lv_aload_n hx hb dX9_going_2 rfl (lv_at hl 0 rfl) ?_
  refine lv_aload_n hx hb dX9_going_3 rfl (lv_at hl 1 rfl) ?_
  obtain ⟨r4, hc4, hok⟩ := k_bind hok
  refine kCi (wc := (wX9_fixed cy aM ap1 qM vM vM_r n1 p1)) (wc2 := (wX9_fixed cy aM ap1 qM vM vM_r n1 p1)) (wr := []) (ws2 := (wX9_going cy aM ap1 qM vM vM_r n1 p1)) (kRunV (As := [.ref ap1]) (rest := [.ref ap1, .ref aM]) ⟨hx, hb, hml, hown, ht0⟩ (kX9_fixed l D cy _ aM ap1 qM vM vM_r n1 p1 r4 hc4 _ rfl) (cwV 1 ht0 (gV wd905 wd906 wd907 wd744 wd908) rfl rfl rfl (by decide +kernel) ⟨Nat.le_of_ble_eq_true rfl, Nat.le_of_ble_eq_true rfl⟩) hK hN hP hD [0, 1, 2] rfl (by decide) 0 8 rfl rfl rfl hl.1 rfl (Nat.le_of_ble_eq_true rfl) dX9_going_4 ⟨Nat.zero_le _, Nat.zero_le _⟩) hP hD hS hA [0, 1, 2] [] rfl rfl (by decide) (by decide) [0, 1, 2] (by decide) rfl rfl (fun H locs hP hD hS => ?_)
  obtain ⟨r7, hc7, hok⟩ := k_bind hok
  refine kCi (wc := (wX9_goingBy cy aM ap1 qM vM vM_r n1 p1)) (wc2 := (wX9_goingBy cy aM ap1 qM vM vM_r n1 p1)) (wr := []) (ws2 := (wX9_going cy aM ap1 qM vM vM_r n1 p1)) (kRunV (As := [.ref ap1, .int r4]) (rest := []) ⟨hx, hb, hml, hown, ht0⟩ (kX9_goingBy l D cy _ aM ap1 qM vM vM_r n1 p1 r4 r7 hc7 _ rfl) (cwV 2 ht0 (gV wd909 wd910 wd911 wd744 wd912) rfl rfl rfl (by decide +kernel) ⟨Nat.le_of_ble_eq_true rfl, Nat.le_of_ble_eq_true rfl⟩) hK hN hP hD [0, 1, 2] rfl (by decide) 0 8 rfl rfl rfl hl.1 rfl (Nat.le_of_ble_eq_true rfl) dX9_going_7 ⟨Nat.zero_le _, Nat.zero_le _⟩) hP hD hS hA [0, 1, 2] [] rfl rfl (by decide) (by decide) [0, 1, 2] (by decide) rfl rfl (fun H locs hP hD hS => ?_)
  cases hok
  exact W.iret hx hb hr (fun t ht hW => ⟨⟨_, (), rfl, rfl, by rw [ht]; exact hP, va_K.moved hW.alike hK, hD⟩, hS.F ht⟩) hS.2.2 dX9_going_10
def wsX9_goOver : List Cond := .code yX9_goOver cX9_goOver 4 none :: W0
abbrev wX9_goOver (cy : Nat → ClassId) (aM : Nat) (ap1 : Nat) (qM : Nat → Nat) (vM : Nat → Int32) (vM_r : Nat → Int32) (n1 : Nat) (p1 : Nat → Int32) : va_W := [(aM, oX9 vM qM), (qM 15, rI cy 224 vM_r), (ap1, rI cy n1 p1)]
set_option maxHeartbeats 4000000 in
set_option maxRecDepth 100000 in
theorem kX9_goOver (l : Launch) (D : va_G) (cy : Nat → ClassId) (sz : Nat) (aM : Nat) (ap1 : Nat) (qM : Nat → Nat) (vM : Nat → Int32) (vM_r : Nat → Int32) (n1 : Nat) (p1 : Nat → Int32) (x2 : Int32) (z_p1 : Nat → Int32) (hok : fX9_goOver vM vM_r n1 p1 x2 = some z_p1) (A : Nat → Prop) (hAe : va_A (wX9_goOver cy aM ap1 qM vM vM_r n1 p1) sz = A) : Met l yX9_goOver wsX9_goOver ({ frames := 2, cells := 0, slots := 0, locals := 45 } : Room) (kPre D cy [.ref aM, .ref ap1, .int x2] (wX9_goOver cy aM ap1 qM vM vM_r n1 p1) sz) (kQv D cy A (wX9_goOver cy aM ap1 qM vM vM_r n1 z_p1)) 0 0 A := by
  refine Met.ofW (cc := cX9_goOver) (maxL := 4) (ret := none) (by decide) rfl ?_
  intro p e s m args below meth c s₁ B hml hv
  obtain ⟨rfl, hsz, hP, hK, hD0, hN⟩ := hv
  have hx := B.exec
  have hb := B.bytes
  have hr := B.returns
  have ht0 : ∀ w ∈ W0, w.before _ s = true := fun w h => atoms_spec (ws := wsX9_goOver) B.pre w (List.mem_cons_of_mem _ h)
  have hown : s.vm.findClass RX9 = some m.cls := findClass_of_methodNamed B.named
  have hlocks := B.notSynchronized
  subst hsz
  have hD : va_D A (wX9_goOver cy aM ap1 qM vM vM_r n1 p1) := by rw [← hAe]; exact hD0.self
  have hA : ∀ q : Nat, s.heap.size ≤ q → A q := fun q h => by rw [← hAe]; exact Or.inr h
  have hS : va_S A s.heap s.heap [] := va_S.rf
  have hl := lv_entry ([.ref aM, .ref ap1, .int x2]) (n := 4) (Nat.le_of_ble_eq_true rfl)
  rw [lg_entry_eq]
  generalize (lg_sl ([.ref aM, .ref ap1, .int x2]) ++ List.replicate (4 - (lg_sl ([.ref aM, .ref ap1, .int x2])).length) Slot.unset).toArray = ls at hl ⊢
  have hl : lv_has ls 4 [(0, .ref aM), (1, .ref ap1), (2, .int x2)] := hl
  generalize hQe : MQ below (kQv D cy A (wX9_goOver cy aM ap1 qM vM vM_r n1 z_p1)) ([.ref aM, .ref ap1, .int x2] : List Value).toArray s 0 0 A = Q
  have L2 : ∀ (fuel : Nat) (y3_2 : Int32) (p1_2 : Nat → Int32), ∀ (H : Heap) (locs : List Loc) (ls : Array Slot), va_P D vwCl (wX9_goOver cy aM ap1 qM vM vM_r n1 p1_2) H → va_D A (wX9_goOver cy aM ap1 qM vM vM_r n1 p1_2) → va_S A s.heap H locs → lv_has ls 4 [(0, .ref aM), (1, .ref ap1), (2, .int x2), (3, .int y3_2)] → lp (fX9_goOver_B2 vM vM_r n1 x2) fuel (y3_2, p1_2) = some z_p1 → W p l e ({ frames := 2, cells := 0, slots := 0, locals := 45 } : Room) s m ([.ref aM, .ref ap1, .int x2] : List Value).toArray below meth c H locs 0 0 Q (F0 m 2 ls []) := by
    intro fuel
    induction fuel with
    | zero => intro y3_2 p1_2 H locs ls hP hD hS hl hok; exact (lp_0 hok).elim
    | succ fuel ih2 =>
      intro y3_2 p1_2 H locs ls hP hD hS hl hok
      obtain ⟨y2, hok, hL2, hR2⟩ := lp_step hok
      have J30 : ∀ (p1_30 : Nat → Int32), ∀ (H : Heap) (locs : List Loc) (ls : Array Slot), va_P D vwCl (wX9_goOver cy aM ap1 qM vM vM_r n1 p1_30) H → va_D A (wX9_goOver cy aM ap1 qM vM vM_r n1 p1_30) → va_S A s.heap H locs → lv_has ls 4 [(0, .ref aM), (1, .ref ap1), (2, .int x2), (3, .int y3_2)] → fX9_goOver_J30 y3_2 p1_30 = some y2 → W p l e ({ frames := 2, cells := 0, slots := 0, locals := 45 } : Room) s m ([.ref aM, .ref ap1, .int x2] : List Value).toArray below meth c H locs 0 0 Q (F0 m 30 ls []) := by
        intro p1_30 H locs ls hP hD hS hl hok
        unfold fX9_goOver_J30 at hok
        refine lv_iinc (v := (y3_2 + 1)) (lv' := [(3, .int (y3_2 + 1)), (0, .ref aM), (1, .ref ap1), (2, .int x2)]) hx hb dX9_goOver_30 hl (k := 3) rfl (by first | rfl | decide) (by decide) rfl (fun ls hl => ?_)
        refine lv_goto (tgt := 2) hx hb dX9_goOver_33 (by decide) ?_
        exact ih2 (y3_2 + 1) p1_30 H locs ls hP hD hS (lv_sub hl [1, 2, 3, 0] rfl) (hR2 _ (Option.some.inj hok).symm)
      unfold fX9_goOver_B2 at hok
      try dsimp only at hok
      refine lv_iload_n hx hb dX9_goOver_2 rfl (lv_at hl 3 rfl) ?_
      refine lv_aload_n hx hb dX9_goOver_3 rfl (lv_at hl 0 rfl) ?_
      refine va_get (D := D) (ci := 8) (v := .ref (qM 15)) (C := RX9) (T := TX9) (N := 29) hx hb ht0 niX9 hown hK hP 0 rfl rfl 15 (by decide) (ht0 _ wd854) (fun _ h9 => h9) rfl dX9_goOver_4 ?_
      refine lv_iconst (v := 3) hx hb dX9_goOver_7 (by decide) ?_
      obtain ⟨g8, hok⟩ := gd_some hok
      refine va_iald hx hb hK hP 1 0 rfl rfl (okI_in g8) dX9_goOver_8 ?_
      refine lv_icmp_ge (tgt := 36) hx hb dX9_goOver_9 (by decide) (fun c9 => ?_) (fun c9 => ?_)
      · have hok := k_pos c9 hok
        obtain ⟨e2, hok, he2⟩ := ex_some hok
        have hok := hok.trans (congrArg some (hL2 _ he2))
        refine lv_aload_n hx hb dX9_goOver_36 rfl (lv_at hl 1 rfl) ?_
        refine lv_bipush (v := 8) hx hb dX9_goOver_37 (by decide) ?_
        refine lv_dup2_11 hx hb dX9_goOver_39 rfl rfl ?_
        obtain ⟨g40, hok⟩ := gd_some hok
        refine va_iald hx hb hK hP 2 0 rfl rfl (okI_in g40) dX9_goOver_40 ?_
        refine lv_iconst (v := 1) hx hb dX9_goOver_41 (by decide) ?_
        refine lv_iadd hx hb dX9_goOver_42 ?_
        obtain ⟨g43, hok⟩ := gd_some hok
        refine va_iast hx hb hK hP hD hS 2 0 rfl rfl (okI_in g43) dX9_goOver_43 (fun H locs hP hD hS => ?_)
        have hP : va_P D vwCl (wX9_goOver cy aM ap1 qM vM vM_r n1 (upd p1_2 (8 : Int32).toNatClampNeg ((p1_2 (8 : Int32).toNatClampNeg) + (1 : Int32)))) H := hP
        have hD : va_D A (wX9_goOver cy aM ap1 qM vM vM_r n1 (upd p1_2 (8 : Int32).toNatClampNeg ((p1_2 (8 : Int32).toNatClampNeg) + (1 : Int32)))) := hD
        cases hok
        subst hQe; exact W.vret hx hb hr (fun t ht hW => ⟨⟨(), rfl, trivial, by rw [ht]; exact hP, va_K.moved hW.alike hK, hD⟩, hS.F ht⟩) hS.2.2 dX9_goOver_44
      · have hok := k_neg c9 hok
        refine lv_iload_n hx hb dX9_goOver_12 rfl (lv_at hl 2 rfl) ?_
        refine lv_iload_n hx hb dX9_goOver_13 rfl (lv_at hl 3 rfl) ?_
        obtain ⟨r14, hc14, hok⟩ := k_bind hok
        refine kCi (wc := (wX9_hasBit cy )) (wc2 := (wX9_hasBit cy )) (wr := [(aM, oX9 vM qM), (qM 15, rI cy 224 vM_r), (ap1, rI cy n1 p1_2)]) (ws2 := (wX9_goOver cy aM ap1 qM vM vM_r n1 p1_2)) (kRunS (As := [.int x2, .int y3_2]) (rest := []) ⟨hx, hb, hml, hown, ht0⟩ (kX9_hasBit l D cy _ x2 y3_2 r14 hc14 _ rfl) (va_cwS 2 ht0 (gS wd894 wd895 wd744 wd896) rfl rfl rfl (by decide +kernel) ⟨Nat.le_of_ble_eq_true rfl, Nat.le_of_ble_eq_true rfl⟩) hK hN hP hD [] rfl (by decide) rfl hl.1 rfl (Nat.le_of_ble_eq_true rfl) dX9_goOver_14 ⟨Nat.zero_le _, Nat.zero_le _⟩) hP hD hS hA [] [0, 1, 2] rfl rfl (by decide) (by decide) [0, 1, 2] (by decide) rfl rfl (fun H locs hP hD hS => ?_)
        refine lv_if_eq (tgt := 30) hx hb dX9_goOver_17 (by decide) (fun c17 => ?_) (fun c17 => ?_)
        · have hok := k_pos c17 hok
          exact J30 p1_2 H locs ls hP hD hS (lv_sub hl [0, 1, 2, 3] rfl) hok
        · have hok := k_neg c17 hok
          refine lv_aload_n hx hb dX9_goOver_20 rfl (lv_at hl 1 rfl) ?_
          refine lv_iload_n hx hb dX9_goOver_21 rfl (lv_at hl 3 rfl) ?_
          refine lv_aload_n hx hb dX9_goOver_22 rfl (lv_at hl 0 rfl) ?_
          refine lv_aload_n hx hb dX9_goOver_23 rfl (lv_at hl 1 rfl) ?_
          refine lv_iload_n hx hb dX9_goOver_24 rfl (lv_at hl 3 rfl) ?_
          obtain ⟨g25, hok⟩ := gd_some hok
          refine va_iald hx hb hK hP 2 0 rfl rfl (okI_in g25) dX9_goOver_25 ?_
          obtain ⟨r26, hc26, hok⟩ := k_bind hok
          refine kCi (wc := (wX9_aheadOf cy aM qM vM vM_r)) (wc2 := (wX9_aheadOf cy aM qM vM vM_r)) (wr := [(ap1, rI cy n1 p1_2)]) (ws2 := (wX9_goOver cy aM ap1 qM vM vM_r n1 p1_2)) (kRunV (As := [.int (p1_2 y3_2.toNatClampNeg)]) (rest := [.int y3_2, .ref ap1]) ⟨hx, hb, hml, hown, ht0⟩ (kX9_aheadOf l D cy _ aM qM vM vM_r (p1_2 y3_2.toNatClampNeg) r26 hc26 _ rfl) (cwV 1 ht0 (gV wd890 wd891 wd892 wd744 wd893) rfl rfl rfl (by decide +kernel) ⟨Nat.le_of_ble_eq_true rfl, Nat.le_of_ble_eq_true rfl⟩) hK hN hP hD [0, 1] rfl (by decide) 0 8 rfl rfl rfl hl.1 rfl (Nat.le_of_ble_eq_true rfl) dX9_goOver_26 ⟨Nat.zero_le _, Nat.zero_le _⟩) hP hD hS hA [0, 1] [2] rfl rfl (by decide) (by decide) [1, 2, 0] (by decide) rfl rfl (fun H locs hP hD hS => ?_)
          obtain ⟨g29, hok⟩ := gd_some hok
          refine va_iast hx hb hK hP hD hS 2 0 rfl rfl (okI_in g29) dX9_goOver_29 (fun H locs hP hD hS => ?_)
          have hP : va_P D vwCl (wX9_goOver cy aM ap1 qM vM vM_r n1 (upd p1_2 y3_2.toNatClampNeg r26)) H := hP
          have hD : va_D A (wX9_goOver cy aM ap1 qM vM vM_r n1 (upd p1_2 y3_2.toNatClampNeg r26)) := hD
          exact J30 (upd p1_2 y3_2.toNatClampNeg r26) H locs ls hP hD hS (lv_sub hl [0, 1, 2, 3] rfl) hok
  unfold fX9_goOver at hok
  obtain ⟨H, hH⟩ : ∃ H, H = s.heap := ⟨_, rfl⟩
  obtain ⟨locs, hlc⟩ : ∃ x : List Loc, x = [] := ⟨_, rfl⟩
  have hP : va_P D vwCl (wX9_goOver cy aM ap1 qM vM vM_r n1 p1) H := by rw [hH]; exact hP
  have hS : va_S A s.heap H locs := by rw [hH, hlc]; exact hS
  rw [show W p l e _ s m _ below meth c s.heap [] = W p l e _ s m _ below meth c H locs from by rw [hH, hlc]]
  refine lv_iconst (v := 0) hx hb dX9_goOver_0 (by decide) ?_
  refine lv_istore_n (lv' := [(3, .int 0), (0, .ref aM), (1, .ref ap1), (2, .int x2)]) hx hb dX9_goOver_1 rfl hl (by decide) rfl (fun ls hl => ?_)
  exact L2 5000 (0 : Int32) p1 H locs ls hP hD hS (lv_sub hl [1, 2, 3, 0] rfl) hok
def wsX9_nightOf : List Cond := .code yX9_nightOf cX9_nightOf 3 (some .int) :: W0
abbrev wX9_nightOf (cy : Nat → ClassId) (aM : Nat) (ap1 : Nat) (qM : Nat → Nat) (vM : Nat → Int32) (vM_r : Nat → Int32) (n1 : Nat) (p1 : Nat → Int32) : va_W := [(aM, oX9 vM qM), (qM 15, rI cy 224 vM_r), (ap1, rI cy n1 p1)]
set_option maxHeartbeats 4000000 in
set_option maxRecDepth 100000 in
theorem kX9_nightOf (l : Launch) (D : va_G) (cy : Nat → ClassId) (sz : Nat) (aM : Nat) (ap1 : Nat) (qM : Nat → Nat) (vM : Nat → Int32) (vM_r : Nat → Int32) (n1 : Nat) (p1 : Nat → Int32) (zr : Int32) (z_p1 : Nat → Int32) (hok : fX9_nightOf vM vM_r n1 p1 = some (zr, z_p1)) (A : Nat → Prop) (hAe : va_A (wX9_nightOf cy aM ap1 qM vM vM_r n1 p1) sz = A) : Met l yX9_nightOf wsX9_nightOf ({ frames := 4, cells := 0, slots := 0, locals := 92 } : Room) (kPre D cy [.ref aM, .ref ap1] (wX9_nightOf cy aM ap1 qM vM vM_r n1 p1) sz) (kQi D cy zr A (wX9_nightOf cy aM ap1 qM vM vM_r n1 z_p1)) 0 0 A := by
  refine Met.ofW (cc := cX9_nightOf) (maxL := 3) (ret := (some .int)) (by decide) rfl ?_
  intro p e s m args below meth c s₁ B hml hv
  obtain ⟨rfl, hsz, hP, hK, hD0, hN⟩ := hv
  have hx := B.exec
  have hb := B.bytes
  have hr := B.returns
  have ht0 : ∀ w ∈ W0, w.before _ s = true := fun w h => atoms_spec (ws := wsX9_nightOf) B.pre w (List.mem_cons_of_mem _ h)
  have hown : s.vm.findClass RX9 = some m.cls := findClass_of_methodNamed B.named
  have hlocks := B.notSynchronized
  subst hsz
  have hD : va_D A (wX9_nightOf cy aM ap1 qM vM vM_r n1 p1) := by rw [← hAe]; exact hD0.self
  have hA : ∀ q : Nat, s.heap.size ≤ q → A q := fun q h => by rw [← hAe]; exact Or.inr h
  have hS : va_S A s.heap s.heap [] := va_S.rf
  have hl := lv_entry ([.ref aM, .ref ap1]) (n := 3) (Nat.le_of_ble_eq_true rfl)
  rw [lg_entry_eq]
  generalize (lg_sl ([.ref aM, .ref ap1]) ++ List.replicate (3 - (lg_sl ([.ref aM, .ref ap1])).length) Slot.unset).toArray = ls at hl ⊢
  have hl : lv_has ls 3 [(0, .ref aM), (1, .ref ap1)] := hl
  unfold fX9_nightOf at hok
  obtain ⟨H, hH⟩ : ∃ H, H = s.heap := ⟨_, rfl⟩
  obtain ⟨locs, hlc⟩ : ∃ x : List Loc, x = [] := ⟨_, rfl⟩
  have hP : va_P D vwCl (wX9_nightOf cy aM ap1 qM vM vM_r n1 p1) H := by rw [hH]; exact hP
  have hS : va_S A s.heap H locs := by rw [hH, hlc]; exact hS
  rw [show W p l e _ s m _ below meth c s.heap [] = W p l e _ s m _ below meth c H locs from by rw [hH, hlc]]
  refine lv_aload_n hx hb dX9_nightOf_0 rfl (lv_at hl 0 rfl) ?_
  refine lv_aload_n hx hb dX9_nightOf_1 rfl (lv_at hl 1 rfl) ?_
  obtain ⟨r2, hc2, hok⟩ := k_bind hok
  refine kCi (wc := (wX9_going cy aM ap1 qM vM vM_r n1 p1)) (wc2 := (wX9_going cy aM ap1 qM vM vM_r n1 p1)) (wr := []) (ws2 := (wX9_nightOf cy aM ap1 qM vM vM_r n1 p1)) (kRunV (As := [.ref ap1]) (rest := []) ⟨hx, hb, hml, hown, ht0⟩ (kX9_going l D cy _ aM ap1 qM vM vM_r n1 p1 r2 hc2 _ rfl) (cwV 1 ht0 (gV wd913 wd914 wd915 wd744 wd916) rfl rfl rfl (by decide +kernel) ⟨Nat.le_of_ble_eq_true rfl, Nat.le_of_ble_eq_true rfl⟩) hK hN hP hD [0, 1, 2] rfl (by decide) 0 8 rfl rfl rfl hl.1 rfl (Nat.le_of_ble_eq_true rfl) dX9_nightOf_2 ⟨Nat.zero_le _, Nat.zero_le _⟩) hP hD hS hA [0, 1, 2] [] rfl rfl (by decide) (by decide) [0, 1, 2] (by decide) rfl rfl (fun H locs hP hD hS => ?_)
  refine lv_istore_n (lv' := [(2, .int r2), (0, .ref aM), (1, .ref ap1)]) hx hb dX9_nightOf_5 rfl hl (by decide) rfl (fun ls hl => ?_)
  refine lv_aload_n hx hb dX9_nightOf_6 rfl (lv_at hl 1 rfl) ?_
  refine lv_aload_n hx hb dX9_nightOf_7 rfl (lv_at hl 2 rfl) ?_
  refine lv_iload_n hx hb dX9_nightOf_8 rfl (lv_at hl 0 rfl) ?_
  obtain ⟨p1_9, hc9, hok⟩ := k_bind hok
  refine kCv (wc := (wX9_goOver cy aM ap1 qM vM vM_r n1 p1)) (wc2 := (wX9_goOver cy aM ap1 qM vM vM_r n1 p1_9)) (wr := []) (ws2 := (wX9_nightOf cy aM ap1 qM vM vM_r n1 p1_9)) (kRunV (As := [.ref ap1, .int r2]) (rest := []) ⟨hx, hb, hml, hown, ht0⟩ (kX9_goOver l D cy _ aM ap1 qM vM vM_r n1 p1 r2 p1_9 hc9 _ rfl) (cwV 2 ht0 (gV wd917 wd918 wd919 wd744 wd920) rfl rfl rfl (by decide +kernel) ⟨Nat.le_of_ble_eq_true rfl, Nat.le_of_ble_eq_true rfl⟩) hK hN hP hD [0, 1, 2] rfl (by decide) 0 8 rfl rfl rfl hl.1 rfl (Nat.le_of_ble_eq_true rfl) dX9_nightOf_9 ⟨Nat.zero_le _, Nat.zero_le _⟩) hP hD hS hA [0, 1, 2] [] rfl rfl (by decide) (by decide) [0, 1, 2] (by decide) rfl rfl (fun H locs hP hD hS => ?_)
  refine lv_iload_n hx hb dX9_nightOf_12 rfl (lv_at hl 0 rfl) ?_
  cases hok
  exact W.iret hx hb hr (fun t ht hW => ⟨⟨_, (), rfl, rfl, by rw [ht]; exact hP, va_K.moved hW.alike hK, hD⟩, hS.F ht⟩) hS.2.2 dX9_nightOf_13
def wsX9_begin : List Cond := .code yX9_begin cX9_begin 1 none :: W0
abbrev wX9_begin (cy : Nat → ClassId) (aM : Nat) (qM : Nat → Nat) (vM : Nat → Int32) (vM_st : Nat → Int32) (vM_trial : Nat → Int32) : va_W := [(aM, oX9 vM qM), (qM 17, rI cy 9 vM_st), (qM 22, rI cy 9 vM_trial)]
set_option maxHeartbeats 4000000 in
set_option maxRecDepth 100000 in
theorem kX9_begin (l : Launch) (D : va_G) (cy : Nat → ClassId) (sz : Nat) (aM : Nat) (qM : Nat → Nat) (vM : Nat → Int32) (vM_st : Nat → Int32) (vM_trial : Nat → Int32) (z_vM_trial : Nat → Int32) (hok : fX9_begin vM vM_st vM_trial = some z_vM_trial) (A : Nat → Prop) (hAe : va_A (wX9_begin cy aM qM vM vM_st vM_trial) sz = A) : Met l yX9_begin wsX9_begin ({ frames := 1, cells := 0, slots := 0, locals := 25 } : Room) (kPre D cy [.ref aM] (wX9_begin cy aM qM vM vM_st vM_trial) sz) (kQv D cy A (wX9_begin cy aM qM vM vM_st z_vM_trial)) 0 0 A := by
  refine Met.ofW (cc := cX9_begin) (maxL := 1) (ret := none) (by decide) rfl ?_
  intro p e s m args below meth c s₁ B hml hv
  obtain ⟨rfl, hsz, hP, hK, hD0, hN⟩ := hv
  have hx := B.exec
  have hb := B.bytes
  have hr := B.returns
  have ht0 : ∀ w ∈ W0, w.before _ s = true := fun w h => atoms_spec (ws := wsX9_begin) B.pre w (List.mem_cons_of_mem _ h)
  have hown : s.vm.findClass RX9 = some m.cls := findClass_of_methodNamed B.named
  have hlocks := B.notSynchronized
  subst hsz
  have hD : va_D A (wX9_begin cy aM qM vM vM_st vM_trial) := by rw [← hAe]; exact hD0.self
  have hA : ∀ q : Nat, s.heap.size ≤ q → A q := fun q h => by rw [← hAe]; exact Or.inr h
  have hS : va_S A s.heap s.heap [] := va_S.rf
  have hl := lv_entry ([.ref aM]) (n := 1) (Nat.le_of_ble_eq_true rfl)
  rw [lg_entry_eq]
  generalize (lg_sl ([.ref aM]) ++ List.replicate (1 - (lg_sl ([.ref aM])).length) Slot.unset).toArray = ls at hl ⊢
  have hl : lv_has ls 1 [(0, .ref aM)] := hl
  unfold fX9_begin at hok
  obtain ⟨H, hH⟩ : ∃ H, H = s.heap := ⟨_, rfl⟩
  obtain ⟨locs, hlc⟩ : ∃ x : List Loc, x = [] := ⟨_, rfl⟩
  have hP : va_P D vwCl (wX9_begin cy aM qM vM vM_st vM_trial) H := by rw [hH]; exact hP
  have hS : va_S A s.heap H locs := by rw [hH, hlc]; exact hS
  rw [show W p l e _ s m _ below meth c s.heap [] = W p l e _ s m _ below meth c H locs from by rw [hH, hlc]]
  refine lv_aload_n hx hb dX9_begin_0 rfl (lv_at hl 0 rfl) ?_
  refine va_get (D := D) (ci := 8) (v := .ref (qM 17)) (C := RX9) (T := TX9) (N := 29) hx hb ht0 niX9 hown hK hP 0 rfl rfl 17 (by decide) (ht0 _ wd858) (fun _ h9 => h9) rfl dX9_begin_1 ?_
  refine lv_iconst (v := 0) hx hb dX9_begin_4 (by decide) ?_
  refine lv_aload_n hx hb dX9_begin_5 rfl (lv_at hl 0 rfl) ?_
  refine va_get (D := D) (ci := 8) (v := .ref (qM 22)) (C := RX9) (T := TX9) (N := 29) hx hb ht0 niX9 hown hK hP 0 rfl rfl 22 (by decide) (ht0 _ wd921) (fun _ h9 => h9) rfl dX9_begin_6 ?_
  refine lv_iconst (v := 0) hx hb dX9_begin_9 (by decide) ?_
  refine lv_bipush (v := 9) hx hb dX9_begin_10 (by decide) ?_
  obtain ⟨p2_12, hc12, hok⟩ := k_bind hok
  refine kCv (wc := (wX9_copy cy (qM 17) (qM 22) 9 vM_st 9 vM_trial)) (wc2 := (wX9_copy cy (qM 17) (qM 22) 9 vM_st 9 p2_12)) (wr := [(aM, oX9 vM qM)]) (ws2 := (wX9_begin cy aM qM vM vM_st p2_12)) (kRunS (As := [.ref (qM 17), .int 0, .ref (qM 22), .int 0, .int 9]) (rest := []) ⟨hx, hb, hml, hown, ht0⟩ (kX9_copy l D cy _ (qM 17) (qM 22) 9 vM_st 9 vM_trial (0 : Int32) (0 : Int32) (9 : Int32) p2_12 hc12 _ rfl) (va_cwS 5 ht0 (gS wd859 wd860 wd744 wd861) rfl rfl rfl (by decide +kernel) ⟨Nat.le_of_ble_eq_true rfl, Nat.le_of_ble_eq_true rfl⟩) hK hN hP hD [1, 2] rfl (by decide) rfl hl.1 rfl (Nat.le_of_ble_eq_true rfl) dX9_begin_12 ⟨Nat.zero_le _, Nat.zero_le _⟩) hP hD hS hA [1, 2] [0] rfl rfl (by decide) (by decide) [0, 1, 2] (by decide) rfl rfl (fun H locs hP hD hS => ?_)
  cases hok
  exact W.vret hx hb hr (fun t ht hW => ⟨⟨(), rfl, trivial, by rw [ht]; exact hP, va_K.moved hW.alike hK, hD⟩, hS.F ht⟩) hS.2.2 dX9_begin_15
def wsX9_areDoored : List Cond := .code yX9_areDoored cX9_areDoored 4 (some .boolean) :: W0
abbrev wX9_areDoored (cy : Nat → ClassId) (aM : Nat) (qM : Nat → Nat) (vM : Nat → Int32) (vM_r : Nat → Int32) : va_W := [(aM, oX9 vM qM), (qM 15, rI cy 224 vM_r)]
set_option maxHeartbeats 4000000 in
set_option maxRecDepth 100000 in
theorem kX9_areDoored (l : Launch) (D : va_G) (cy : Nat → ClassId) (sz : Nat) (aM : Nat) (qM : Nat → Nat) (vM : Nat → Int32) (vM_r : Nat → Int32) (x1 : Int32) (x2 : Int32) (zr : Int32) (hok : fX9_areDoored vM vM_r x1 x2 = some zr) (A : Nat → Prop) (hAe : va_A (wX9_areDoored cy aM qM vM vM_r) sz = A) : Met l yX9_areDoored wsX9_areDoored ({ frames := 0, cells := 0, slots := 0, locals := 0 } : Room) (kPre D cy [.ref aM, .int x1, .int x2] (wX9_areDoored cy aM qM vM vM_r) sz) (kQi D cy zr A (wX9_areDoored cy aM qM vM vM_r)) 0 0 A := by
  refine Met.ofW (cc := cX9_areDoored) (maxL := 4) (ret := (some .boolean)) (by decide) rfl ?_
  intro p e s m args below meth c s₁ B hml hv
  obtain ⟨rfl, hsz, hP, hK, hD0, hN⟩ := hv
  have hx := B.exec
  have hb := B.bytes
  have hr := B.returns
  have ht0 : ∀ w ∈ W0, w.before _ s = true := fun w h => atoms_spec (ws := wsX9_areDoored) B.pre w (List.mem_cons_of_mem _ h)
  have hown : s.vm.findClass RX9 = some m.cls := findClass_of_methodNamed B.named
  have hlocks := B.notSynchronized
  subst hsz
  have hD : va_D A (wX9_areDoored cy aM qM vM vM_r) := by rw [← hAe]; exact hD0.self
  have hA : ∀ q : Nat, s.heap.size ≤ q → A q := fun q h => by rw [← hAe]; exact Or.inr h
  have hS : va_S A s.heap s.heap [] := va_S.rf
  have hl := lv_entry ([.ref aM, .int x1, .int x2]) (n := 4) (Nat.le_of_ble_eq_true rfl)
  rw [lg_entry_eq]
  generalize (lg_sl ([.ref aM, .int x1, .int x2]) ++ List.replicate (4 - (lg_sl ([.ref aM, .int x1, .int x2])).length) Slot.unset).toArray = ls at hl ⊢
  have hl : lv_has ls 4 [(0, .ref aM), (1, .int x1), (2, .int x2)] := hl
  generalize hQe : MQ below (kQi D cy zr A (wX9_areDoored cy aM qM vM vM_r)) ([.ref aM, .int x1, .int x2] : List Value).toArray s 0 0 A = Q
  have J76 : ∀ (H : Heap) (locs : List Loc) (ls : Array Slot), va_P D vwCl (wX9_areDoored cy aM qM vM vM_r) H → va_D A (wX9_areDoored cy aM qM vM vM_r) → va_S A s.heap H locs → lv_has ls 4 [] → fX9_areDoored_J76 = some zr → W p l e ({ frames := 0, cells := 0, slots := 0, locals := 0 } : Room) s m ([.ref aM, .int x1, .int x2] : List Value).toArray below meth c H locs 0 0 Q (F0 m 76 ls []) := by
    intro  H locs ls hP hD hS hl hok
    unfold fX9_areDoored_J76 at hok
    refine lv_iconst (v := 1) hx hb dX9_areDoored_76 (by decide) ?_
    cases hok
    subst hQe; exact W.zret hx hb hr rfl (fun t ht hW => ⟨⟨_, (), rfl, rfl, by rw [ht]; exact hP, va_K.moved hW.alike hK, hD⟩, hS.F ht⟩) hS.2.2 dX9_areDoored_77
  have L2 : ∀ (fuel : Nat) (y3_2 : Int32), ∀ (H : Heap) (locs : List Loc) (ls : Array Slot), va_P D vwCl (wX9_areDoored cy aM qM vM vM_r) H → va_D A (wX9_areDoored cy aM qM vM vM_r) → va_S A s.heap H locs → lv_has ls 4 [(0, .ref aM), (1, .int x1), (2, .int x2), (3, .int y3_2)] → lp (fX9_areDoored_B2 vM_r x1 x2) fuel y3_2 = some zr → W p l e ({ frames := 0, cells := 0, slots := 0, locals := 0 } : Room) s m ([.ref aM, .int x1, .int x2] : List Value).toArray below meth c H locs 0 0 Q (F0 m 2 ls []) := by
    intro fuel
    induction fuel with
    | zero => intro y3_2 H locs ls hP hD hS hl hok; exact (lp_0 hok).elim
    | succ fuel ih2 =>
      intro y3_2 H locs ls hP hD hS hl hok
      obtain ⟨y2, hok, hL2, hR2⟩ := lp_step hok
      have J78 : ∀ (H : Heap) (locs : List Loc) (ls : Array Slot), va_P D vwCl (wX9_areDoored cy aM qM vM vM_r) H → va_D A (wX9_areDoored cy aM qM vM vM_r) → va_S A s.heap H locs → lv_has ls 4 [(0, .ref aM), (1, .int x1), (2, .int x2), (3, .int y3_2)] → fX9_areDoored_J78 y3_2 = some y2 → W p l e ({ frames := 0, cells := 0, slots := 0, locals := 0 } : Room) s m ([.ref aM, .int x1, .int x2] : List Value).toArray below meth c H locs 0 0 Q (F0 m 78 ls []) := by
        intro  H locs ls hP hD hS hl hok
        unfold fX9_areDoored_J78 at hok
        refine lv_iinc (v := (y3_2 + 1)) (lv' := [(3, .int (y3_2 + 1)), (0, .ref aM), (1, .int x1), (2, .int x2)]) hx hb dX9_areDoored_78 hl (k := 3) rfl (by first | rfl | decide) (by decide) rfl (fun ls hl => ?_)
        refine lv_goto (tgt := 2) hx hb dX9_areDoored_81 (by decide) ?_
        exact ih2 (y3_2 + 1) H locs ls hP hD hS (lv_sub hl [1, 2, 3, 0] rfl) (hR2 _ (Option.some.inj hok).symm)
      have J44 : ∀ (H : Heap) (locs : List Loc) (ls : Array Slot), va_P D vwCl (wX9_areDoored cy aM qM vM vM_r) H → va_D A (wX9_areDoored cy aM qM vM vM_r) → va_S A s.heap H locs → lv_has ls 4 [(0, .ref aM), (1, .int x1), (2, .int x2), (3, .int y3_2)] → fX9_areDoored_J44 vM_r x1 x2 y3_2 = some y2 → W p l e ({ frames := 0, cells := 0, slots := 0, locals := 0 } : Room) s m ([.ref aM, .int x1, .int x2] : List Value).toArray below meth c H locs 0 0 Q (F0 m 44 ls []) := by
        intro  H locs ls hP hD hS hl hok
        unfold fX9_areDoored_J44 at hok
        refine lv_aload_n hx hb dX9_areDoored_44 rfl (lv_at hl 0 rfl) ?_
        refine va_get (D := D) (ci := 8) (v := .ref (qM 15)) (C := RX9) (T := TX9) (N := 29) hx hb ht0 niX9 hown hK hP 0 rfl rfl 15 (by decide) (ht0 _ wd854) (fun _ h9 => h9) rfl dX9_areDoored_45 ?_
        refine lv_bipush (v := 52) hx hb dX9_areDoored_48 (by decide) ?_
        refine lv_iconst (v := 2) hx hb dX9_areDoored_50 (by decide) ?_
        refine lv_iload_n hx hb dX9_areDoored_51 rfl (lv_at hl 3 rfl) ?_
        refine lv_imul hx hb dX9_areDoored_52 ?_
        refine lv_iadd hx hb dX9_areDoored_53 ?_
        obtain ⟨g54, hok⟩ := gd_some hok
        refine va_iald hx hb hK hP 1 0 rfl rfl (okI_in g54) dX9_areDoored_54 ?_
        refine lv_iload_n hx hb dX9_areDoored_55 rfl (lv_at hl 2 rfl) ?_
        refine lv_icmp_ne (tgt := 78) hx hb dX9_areDoored_56 (by decide) (fun c56 => ?_) (fun c56 => ?_)
        · have hok := k_neg c56 hok
          exact J78  H locs ls hP hD hS (lv_sub hl [0, 1, 2, 3] rfl) hok
        · have hok := k_pos c56 hok
          refine lv_aload_n hx hb dX9_areDoored_59 rfl (lv_at hl 0 rfl) ?_
          refine va_get (D := D) (ci := 8) (v := .ref (qM 15)) (C := RX9) (T := TX9) (N := 29) hx hb ht0 niX9 hown hK hP 0 rfl rfl 15 (by decide) (ht0 _ wd854) (fun _ h9 => h9) rfl dX9_areDoored_60 ?_
          refine lv_bipush (v := 52) hx hb dX9_areDoored_63 (by decide) ?_
          refine lv_iconst (v := 2) hx hb dX9_areDoored_65 (by decide) ?_
          refine lv_iload_n hx hb dX9_areDoored_66 rfl (lv_at hl 3 rfl) ?_
          refine lv_imul hx hb dX9_areDoored_67 ?_
          refine lv_iadd hx hb dX9_areDoored_68 ?_
          refine lv_iconst (v := 1) hx hb dX9_areDoored_69 (by decide) ?_
          refine lv_iadd hx hb dX9_areDoored_70 ?_
          obtain ⟨g71, hok⟩ := gd_some hok
          refine va_iald hx hb hK hP 1 0 rfl rfl (okI_in g71) dX9_areDoored_71 ?_
          refine lv_iload_n hx hb dX9_areDoored_72 rfl (lv_at hl 1 rfl) ?_
          refine lv_icmp_ne (tgt := 78) hx hb dX9_areDoored_73 (by decide) (fun c73 => ?_) (fun c73 => ?_)
          · have hok := k_neg c73 hok
            exact J78  H locs ls hP hD hS (lv_sub hl [0, 1, 2, 3] rfl) hok
          · have hok := k_pos c73 hok
            obtain ⟨e2, hok, he2⟩ := ex_some hok
            have hok := hok.trans (congrArg some (hL2 _ he2))
            exact J76  H locs ls hP hD hS (lv_sub hl [] rfl) hok
      unfold fX9_areDoored_B2 at hok
      refine lv_iload_n hx hb dX9_areDoored_2 rfl (lv_at hl 3 rfl) ?_
      refine lv_aload_n hx hb dX9_areDoored_3 rfl (lv_at hl 0 rfl) ?_
      refine va_get (D := D) (ci := 8) (v := .ref (qM 15)) (C := RX9) (T := TX9) (N := 29) hx hb ht0 niX9 hown hK hP 0 rfl rfl 15 (by decide) (ht0 _ wd854) (fun _ h9 => h9) rfl dX9_areDoored_4 ?_
      refine lv_iconst (v := 5) hx hb dX9_areDoored_7 (by decide) ?_
      obtain ⟨g8, hok⟩ := gd_some hok
      refine va_iald hx hb hK hP 1 0 rfl rfl (okI_in g8) dX9_areDoored_8 ?_
      refine lv_icmp_ge (tgt := 84) hx hb dX9_areDoored_9 (by decide) (fun c9 => ?_) (fun c9 => ?_)
      · have hok := k_pos c9 hok
        obtain ⟨e2, hok, he2⟩ := ex_some hok
        have hok := hok.trans (congrArg some (hL2 _ he2))
        refine lv_iconst (v := 0) hx hb dX9_areDoored_84 (by decide) ?_
        cases hok
        subst hQe; exact W.zret hx hb hr rfl (fun t ht hW => ⟨⟨_, (), rfl, rfl, by rw [ht]; exact hP, va_K.moved hW.alike hK, hD⟩, hS.F ht⟩) hS.2.2 dX9_areDoored_85
      · have hok := k_neg c9 hok
        refine lv_aload_n hx hb dX9_areDoored_12 rfl (lv_at hl 0 rfl) ?_
        refine va_get (D := D) (ci := 8) (v := .ref (qM 15)) (C := RX9) (T := TX9) (N := 29) hx hb ht0 niX9 hown hK hP 0 rfl rfl 15 (by decide) (ht0 _ wd854) (fun _ h9 => h9) rfl dX9_areDoored_13 ?_
        refine lv_bipush (v := 52) hx hb dX9_areDoored_16 (by decide) ?_
        refine lv_iconst (v := 2) hx hb dX9_areDoored_18 (by decide) ?_
        refine lv_iload_n hx hb dX9_areDoored_19 rfl (lv_at hl 3 rfl) ?_
        refine lv_imul hx hb dX9_areDoored_20 ?_
        refine lv_iadd hx hb dX9_areDoored_21 ?_
        obtain ⟨g22, hok⟩ := gd_some hok
        refine va_iald hx hb hK hP 1 0 rfl rfl (okI_in g22) dX9_areDoored_22 ?_
        refine lv_iload_n hx hb dX9_areDoored_23 rfl (lv_at hl 1 rfl) ?_
        refine lv_icmp_ne (tgt := 44) hx hb dX9_areDoored_24 (by decide) (fun c24 => ?_) (fun c24 => ?_)
        · have hok := k_neg c24 hok
          exact J44  H locs ls hP hD hS (lv_sub hl [0, 1, 2, 3] rfl) hok
        · have hok := k_pos c24 hok
          refine lv_aload_n hx hb dX9_areDoored_27 rfl (lv_at hl 0 rfl) ?_
          refine va_get (D := D) (ci := 8) (v := .ref (qM 15)) (C := RX9) (T := TX9) (N := 29) hx hb ht0 niX9 hown hK hP 0 rfl rfl 15 (by decide) (ht0 _ wd854) (fun _ h9 => h9) rfl dX9_areDoored_28 ?_
          refine lv_bipush (v := 52) hx hb dX9_areDoored_31 (by decide) ?_
          refine lv_iconst (v := 2) hx hb dX9_areDoored_33 (by decide) ?_
          refine lv_iload_n hx hb dX9_areDoored_34 rfl (lv_at hl 3 rfl) ?_
          refine lv_imul hx hb dX9_areDoored_35 ?_
          refine lv_iadd hx hb dX9_areDoored_36 ?_
          refine lv_iconst (v := 1) hx hb dX9_areDoored_37 (by decide) ?_
          refine lv_iadd hx hb dX9_areDoored_38 ?_
          obtain ⟨g39, hok⟩ := gd_some hok
          refine va_iald hx hb hK hP 1 0 rfl rfl (okI_in g39) dX9_areDoored_39 ?_
          refine lv_iload_n hx hb dX9_areDoored_40 rfl (lv_at hl 2 rfl) ?_
          refine lv_icmp_eq (tgt := 76) hx hb dX9_areDoored_41 (by decide) (fun c41 => ?_) (fun c41 => ?_)
          · have hok := k_pos c41 hok
            obtain ⟨e2, hok, he2⟩ := ex_some hok
            have hok := hok.trans (congrArg some (hL2 _ he2))
            exact J76  H locs ls hP hD hS (lv_sub hl [] rfl) hok
          · have hok := k_neg c41 hok
            exact J44  H locs ls hP hD hS (lv_sub hl [0, 1, 2, 3] rfl) hok
  unfold fX9_areDoored at hok
  obtain ⟨H, hH⟩ : ∃ H, H = s.heap := ⟨_, rfl⟩
  obtain ⟨locs, hlc⟩ : ∃ x : List Loc, x = [] := ⟨_, rfl⟩
  have hP : va_P D vwCl (wX9_areDoored cy aM qM vM vM_r) H := by rw [hH]; exact hP
  have hS : va_S A s.heap H locs := by rw [hH, hlc]; exact hS
  rw [show W p l e _ s m _ below meth c s.heap [] = W p l e _ s m _ below meth c H locs from by rw [hH, hlc]]
  refine lv_iconst (v := 0) hx hb dX9_areDoored_0 (by decide) ?_
  refine lv_istore_n (lv' := [(3, .int 0), (0, .ref aM), (1, .int x1), (2, .int x2)]) hx hb dX9_areDoored_1 rfl hl (by decide) rfl (fun ls hl => ?_)
  exact L2 5000 (0 : Int32) H locs ls hP hD hS (lv_sub hl [1, 2, 3, 0] rfl) hok
def wsX9_ring : List Cond := .code yX9_ring cX9_ring 5 (some .int) :: W0
abbrev wX9_ring (cy : Nat → ClassId) (aM : Nat) (qM : Nat → Nat) (vM : Nat → Int32) (vM_r : Nat → Int32) (vM_st : Nat → Int32) : va_W := [(aM, oX9 vM qM), (qM 15, rI cy 224 vM_r), (qM 17, rI cy 9 vM_st)]
set_option maxHeartbeats 4000000 in
set_option maxRecDepth 100000 in
theorem kX9_ring (l : Launch) (D : va_G) (cy : Nat → ClassId) (sz : Nat) (aM : Nat) (qM : Nat → Nat) (vM : Nat → Int32) (vM_r : Nat → Int32) (vM_st : Nat → Int32) (x1 : Int32) (x2 : Int32) (zr : Int32) (z_vM : Nat → Int32) (hok : fX9_ring vM vM_r vM_st x1 x2 = some (zr, z_vM)) (A : Nat → Prop) (hAe : va_A (wX9_ring cy aM qM vM vM_r vM_st) sz = A) : Met l yX9_ring wsX9_ring ({ frames := 2, cells := 0, slots := 0, locals := 43 } : Room) (kPre D cy [.ref aM, .int x1, .int x2] (wX9_ring cy aM qM vM vM_r vM_st) sz) (kQi D cy zr A (wX9_ring cy aM qM z_vM vM_r vM_st)) 0 0 A := by
  refine Met.ofW (cc := cX9_ring) (maxL := 5) (ret := (some .int)) (by decide) rfl ?_
  intro p e s m args below meth c s₁ B hml hv
  obtain ⟨rfl, hsz, hP, hK, hD0, hN⟩ := hv
  have hx := B.exec
  have hb := B.bytes
  have hr := B.returns
  have ht0 : ∀ w ∈ W0, w.before _ s = true := fun w h => atoms_spec (ws := wsX9_ring) B.pre w (List.mem_cons_of_mem _ h)
  have hown : s.vm.findClass RX9 = some m.cls := findClass_of_methodNamed B.named
  have hlocks := B.notSynchronized
  subst hsz
  have hD : va_D A (wX9_ring cy aM qM vM vM_r vM_st) := by rw [← hAe]; exact hD0.self
  have hA : ∀ q : Nat, s.heap.size ≤ q → A q := fun q h => by rw [← hAe]; exact Or.inr h
  have hS : va_S A s.heap s.heap [] := va_S.rf
  have hl := lv_entry ([.ref aM, .int x1, .int x2]) (n := 5) (Nat.le_of_ble_eq_true rfl)
  rw [lg_entry_eq]
  generalize (lg_sl ([.ref aM, .int x1, .int x2]) ++ List.replicate (5 - (lg_sl ([.ref aM, .int x1, .int x2])).length) Slot.unset).toArray = ls at hl ⊢
  have hl : lv_has ls 5 [(0, .ref aM), (1, .int x1), (2, .int x2)] := hl
  generalize hQe : MQ below (kQi D cy zr A (wX9_ring cy aM qM z_vM vM_r vM_st)) ([.ref aM, .int x1, .int x2] : List Value).toArray s 0 0 A = Q
  have J118 : ∀ (t0_118 : Int32) (vM_118 : Nat → Int32), ∀ (H : Heap) (locs : List Loc) (ls : Array Slot), va_P D vwCl (wX9_ring cy aM qM vM_118 vM_r vM_st) H → va_D A (wX9_ring cy aM qM vM_118 vM_r vM_st) → va_S A s.heap H locs → lv_has ls 5 [] → fX9_ring_J118 t0_118 vM_118 = some (zr, z_vM) → W p l e ({ frames := 2, cells := 0, slots := 0, locals := 43 } : Room) s m ([.ref aM, .int x1, .int x2] : List Value).toArray below meth c H locs 0 0 Q (F0 m 118 ls [.int t0_118]) := by
    intro t0_118 vM_118 H locs ls hP hD hS hl hok
    unfold fX9_ring_J118 at hok
    cases hok
    subst hQe; exact W.iret hx hb hr (fun t ht hW => ⟨⟨_, (), rfl, rfl, by rw [ht]; exact hP, va_K.moved hW.alike hK, hD⟩, hS.F ht⟩) hS.2.2 dX9_ring_118
  have L32 : ∀ (fuel : Nat) (y3_32 : Int32) (y4_32 : Int32) (vM_32 : Nat → Int32), ∀ (H : Heap) (locs : List Loc) (ls : Array Slot), va_P D vwCl (wX9_ring cy aM qM vM_32 vM_r vM_st) H → va_D A (wX9_ring cy aM qM vM_32 vM_r vM_st) → va_S A s.heap H locs → lv_has ls 5 [(0, .ref aM), (1, .int x1), (2, .int x2), (3, .int y3_32), (4, .int y4_32)] → lp (fX9_ring_B32 vM_r vM_st x1 x2) fuel (y3_32, y4_32, vM_32) = some (zr, z_vM) → W p l e ({ frames := 2, cells := 0, slots := 0, locals := 43 } : Room) s m ([.ref aM, .int x1, .int x2] : List Value).toArray below meth c H locs 0 0 Q (F0 m 32 ls []) := by
    intro fuel
    induction fuel with
    | zero => intro y3_32 y4_32 vM_32 H locs ls hP hD hS hl hok; exact (lp_0 hok).elim
    | succ fuel ih32 =>
      intro y3_32 y4_32 vM_32 H locs ls hP hD hS hl hok
      obtain ⟨y32, hok, hL32, hR32⟩ := lp_step hok
      have J66 : ∀ (t0_66 : Int32), ∀ (H : Heap) (locs : List Loc) (ls : Array Slot), va_P D vwCl (wX9_ring cy aM qM vM_32 vM_r vM_st) H → va_D A (wX9_ring cy aM qM vM_32 vM_r vM_st) → va_S A s.heap H locs → lv_has ls 5 [(0, .ref aM), (1, .int x1), (2, .int x2), (4, .int y4_32)] → fX9_ring_J66 y3_32 y4_32 vM_32 t0_66 = some y32 → W p l e ({ frames := 2, cells := 0, slots := 0, locals := 43 } : Room) s m ([.ref aM, .int x1, .int x2] : List Value).toArray below meth c H locs 0 0 Q (F0 m 66 ls [.int t0_66, .int y3_32]) := by
        intro t0_66 H locs ls hP hD hS hl hok
        unfold fX9_ring_J66 at hok
        refine lv_ior hx hb dX9_ring_66 ?_
        refine lv_istore_n (lv' := [(3, .int (y3_32 ||| t0_66)), (0, .ref aM), (1, .int x1), (2, .int x2), (4, .int y4_32)]) hx hb dX9_ring_67 rfl hl (by decide) rfl (fun ls hl => ?_)
        refine lv_iinc (v := (y4_32 + 1)) (lv' := [(4, .int (y4_32 + 1)), (3, .int (y3_32 ||| t0_66)), (0, .ref aM), (1, .int x1), (2, .int x2)]) hx hb dX9_ring_68 hl (k := 4) rfl (by first | rfl | decide) (by decide) rfl (fun ls hl => ?_)
        refine lv_goto (tgt := 32) hx hb dX9_ring_71 (by decide) ?_
        exact ih32 (y3_32 ||| t0_66) (y4_32 + 1) vM_32 H locs ls hP hD hS (lv_sub hl [2, 3, 4, 1, 0] rfl) (hR32 _ (Option.some.inj hok).symm)
      unfold fX9_ring_B32 at hok
      try dsimp only at hok
      refine lv_iload hx hb dX9_ring_32 (lv_at hl 4 rfl) ?_
      refine lv_aload_n hx hb dX9_ring_34 rfl (lv_at hl 0 rfl) ?_
      refine va_get (D := D) (ci := 8) (v := .ref (qM 15)) (C := RX9) (T := TX9) (N := 29) hx hb ht0 niX9 hown hK hP 0 rfl rfl 15 (by decide) (ht0 _ wd854) (fun _ h9 => h9) rfl dX9_ring_35 ?_
      refine lv_iconst (v := 3) hx hb dX9_ring_38 (by decide) ?_
      obtain ⟨g39, hok⟩ := gd_some hok
      refine va_iald hx hb hK hP 1 0 rfl rfl (okI_in g39) dX9_ring_39 ?_
      refine lv_icmp_ge (tgt := 74) hx hb dX9_ring_40 (by decide) (fun c40 => ?_) (fun c40 => ?_)
      · have hok := k_pos c40 hok
        obtain ⟨e32, hok, he32⟩ := ex_some hok
        have hok := hok.trans (congrArg some (hL32 _ he32))
        refine lv_iload_n hx hb dX9_ring_74 rfl (lv_at hl 2 rfl) ?_
        refine lv_if_ne (tgt := 86) hx hb dX9_ring_75 (by decide) (fun c75 => ?_) (fun c75 => ?_)
        · have hok := k_neg c75 hok
          refine lv_iload_n hx hb dX9_ring_86 rfl (lv_at hl 2 rfl) ?_
          refine lv_iconst (v := 1) hx hb dX9_ring_87 (by decide) ?_
          refine lv_icmp_ne (tgt := 99) hx hb dX9_ring_88 (by decide) (fun c88 => ?_) (fun c88 => ?_)
          · have hok := k_neg c88 hok
            refine lv_iload_n hx hb dX9_ring_99 rfl (lv_at hl 2 rfl) ?_
            refine lv_iconst (v := 2) hx hb dX9_ring_100 (by decide) ?_
            refine lv_icmp_ne (tgt := 108) hx hb dX9_ring_101 (by decide) (fun c101 => ?_) (fun c101 => ?_)
            · have hok := k_neg c101 hok
              refine lv_aload_n hx hb dX9_ring_108 rfl (lv_at hl 0 rfl) ?_
              refine lv_iload_n hx hb dX9_ring_109 rfl (lv_at hl 1 rfl) ?_
              obtain ⟨r110, hc110, hok⟩ := k_bind hok
              refine kCi (wc := (wX9_placesOf cy aM qM vM_32 vM_r)) (wc2 := (wX9_placesOf cy aM qM vM_32 vM_r)) (wr := [(qM 17, rI cy 9 vM_st)]) (ws2 := (wX9_ring cy aM qM vM_32 vM_r vM_st)) (kRunV (As := [.int x1]) (rest := []) ⟨hx, hb, hml, hown, ht0⟩ (kX9_placesOf l D cy _ aM qM vM_32 vM_r x1 r110 hc110 _ rfl) (cwV 1 ht0 (gV wd878 wd879 wd880 wd744 wd881) rfl rfl rfl (by decide +kernel) ⟨Nat.le_of_ble_eq_true rfl, Nat.le_of_ble_eq_true rfl⟩) hK hN hP hD [0, 1] rfl (by decide) 0 8 rfl rfl rfl hl.1 rfl (Nat.le_of_ble_eq_true rfl) dX9_ring_110 ⟨Nat.zero_le _, Nat.zero_le _⟩) hP hD hS hA [0, 1] [2] rfl rfl (by decide) (by decide) [1, 2, 0] (by decide) rfl rfl (fun H locs hP hD hS => ?_)
              refine lv_iload_n hx hb dX9_ring_113 rfl (lv_at hl 3 rfl) ?_
              obtain ⟨r114, hc114, hok⟩ := k_bind hok
              refine kCi (wc := (wX9_ones cy )) (wc2 := (wX9_ones cy )) (wr := [(aM, oX9 vM_32 qM), (qM 15, rI cy 224 vM_r), (qM 17, rI cy 9 vM_st)]) (ws2 := (wX9_ring cy aM qM vM_32 vM_r vM_st)) (kRunS (As := [.int y3_32]) (rest := [.int r110]) ⟨hx, hb, hml, hown, ht0⟩ (kX9_ones l D cy _ y3_32 r114 hc114 _ rfl) (va_cwS 1 ht0 (gS wd922 wd923 wd744 wd924) rfl rfl rfl (by decide +kernel) ⟨Nat.le_of_ble_eq_true rfl, Nat.le_of_ble_eq_true rfl⟩) hK hN hP hD [] rfl (by decide) rfl hl.1 rfl (Nat.le_of_ble_eq_true rfl) dX9_ring_114 ⟨Nat.zero_le _, Nat.zero_le _⟩) hP hD hS hA [] [0, 1, 2] rfl rfl (by decide) (by decide) [0, 1, 2] (by decide) rfl rfl (fun H locs hP hD hS => ?_)
              refine lv_isub hx hb dX9_ring_117 ?_
              exact J118 (r110 - r114) vM_32 H locs ls hP hD hS (lv_sub hl [] rfl) hok
            · have hok := k_pos c101 hok
              refine lv_iload_n hx hb dX9_ring_104 rfl (lv_at hl 3 rfl) ?_
              refine lv_goto (tgt := 118) hx hb dX9_ring_105 (by decide) ?_
              exact J118 y3_32 vM_32 H locs ls hP hD hS (lv_sub hl [] rfl) hok
          · have hok := k_pos c88 hok
            refine lv_aload_n hx hb dX9_ring_91 rfl (lv_at hl 0 rfl) ?_
            refine lv_iload_n hx hb dX9_ring_92 rfl (lv_at hl 1 rfl) ?_
            obtain ⟨r93, hc93, hok⟩ := k_bind hok
            refine kCi (wc := (wX9_placesOf cy aM qM vM_32 vM_r)) (wc2 := (wX9_placesOf cy aM qM vM_32 vM_r)) (wr := [(qM 17, rI cy 9 vM_st)]) (ws2 := (wX9_ring cy aM qM vM_32 vM_r vM_st)) (kRunV (As := [.int x1]) (rest := []) ⟨hx, hb, hml, hown, ht0⟩ (kX9_placesOf l D cy _ aM qM vM_32 vM_r x1 r93 hc93 _ rfl) (cwV 1 ht0 (gV wd878 wd879 wd880 wd744 wd881) rfl rfl rfl (by decide +kernel) ⟨Nat.le_of_ble_eq_true rfl, Nat.le_of_ble_eq_true rfl⟩) hK hN hP hD [0, 1] rfl (by decide) 0 8 rfl rfl rfl hl.1 rfl (Nat.le_of_ble_eq_true rfl) dX9_ring_93 ⟨Nat.zero_le _, Nat.zero_le _⟩) hP hD hS hA [0, 1] [2] rfl rfl (by decide) (by decide) [1, 2, 0] (by decide) rfl rfl (fun H locs hP hD hS => ?_)
            refine lv_goto (tgt := 118) hx hb dX9_ring_96 (by decide) ?_
            exact J118 r93 vM_32 H locs ls hP hD hS (lv_sub hl [] rfl) hok
        · have hok := k_pos c75 hok
          refine lv_aload_n hx hb dX9_ring_78 rfl (lv_at hl 0 rfl) ?_
          refine lv_iload_n hx hb dX9_ring_79 rfl (lv_at hl 1 rfl) ?_
          obtain ⟨r80, hc80, hok⟩ := k_bind hok
          refine kCi (wc := (wX9_sortOf cy aM qM vM_32 vM_r)) (wc2 := (wX9_sortOf cy aM qM vM_32 vM_r)) (wr := [(qM 17, rI cy 9 vM_st)]) (ws2 := (wX9_ring cy aM qM vM_32 vM_r vM_st)) (kRunV (As := [.int x1]) (rest := []) ⟨hx, hb, hml, hown, ht0⟩ (kX9_sortOf l D cy _ aM qM vM_32 vM_r x1 r80 hc80 _ rfl) (cwV 1 ht0 (gV wd882 wd883 wd884 wd744 wd885) rfl rfl rfl (by decide +kernel) ⟨Nat.le_of_ble_eq_true rfl, Nat.le_of_ble_eq_true rfl⟩) hK hN hP hD [0, 1] rfl (by decide) 0 8 rfl rfl rfl hl.1 rfl (Nat.le_of_ble_eq_true rfl) dX9_ring_80 ⟨Nat.zero_le _, Nat.zero_le _⟩) hP hD hS hA [0, 1] [2] rfl rfl (by decide) (by decide) [1, 2, 0] (by decide) rfl rfl (fun H locs hP hD hS => ?_)
          refine lv_goto (tgt := 118) hx hb dX9_ring_83 (by decide) ?_
          exact J118 r80 vM_32 H locs ls hP hD hS (lv_sub hl [] rfl) hok
      · have hok := k_neg c40 hok
        refine lv_iload_n hx hb dX9_ring_43 rfl (lv_at hl 3 rfl) ?_
        refine lv_aload_n hx hb dX9_ring_44 rfl (lv_at hl 0 rfl) ?_
        refine va_get (D := D) (ci := 8) (v := .ref (qM 17)) (C := RX9) (T := TX9) (N := 29) hx hb ht0 niX9 hown hK hP 0 rfl rfl 17 (by decide) (ht0 _ wd858) (fun _ h9 => h9) rfl dX9_ring_45 ?_
        refine lv_iload hx hb dX9_ring_48 (lv_at hl 4 rfl) ?_
        obtain ⟨g50, hok⟩ := gd_some hok
        refine va_iald hx hb hK hP 2 0 rfl rfl (okI_in g50) dX9_ring_50 ?_
        refine lv_bipush (v := 9) hx hb dX9_ring_51 (by decide) ?_
        refine lv_idiv hx hb dX9_ring_53 (by decide) ?_
        refine lv_iload_n hx hb dX9_ring_54 rfl (lv_at hl 1 rfl) ?_
        refine lv_icmp_ne (tgt := 65) hx hb dX9_ring_55 (by decide) (fun c55 => ?_) (fun c55 => ?_)
        · have hok := k_neg c55 hok
          refine lv_iconst (v := 0) hx hb dX9_ring_65 (by decide) ?_
          exact J66 (0 : Int32) H locs ls hP hD hS (lv_sub hl [0, 1, 2, 4] rfl) hok
        · have hok := k_pos c55 hok
          refine lv_iconst (v := 1) hx hb dX9_ring_58 (by decide) ?_
          refine lv_iload hx hb dX9_ring_59 (lv_at hl 4 rfl) ?_
          refine lv_ishl hx hb dX9_ring_61 ?_
          refine lv_goto (tgt := 66) hx hb dX9_ring_62 (by decide) ?_
          exact J66 (isl (1 : Int32) y4_32) H locs ls hP hD hS (lv_sub hl [0, 1, 2, 4] rfl) hok
  have J21 : ∀ (vM_21 : Nat → Int32), ∀ (H : Heap) (locs : List Loc) (ls : Array Slot), va_P D vwCl (wX9_ring cy aM qM vM_21 vM_r vM_st) H → va_D A (wX9_ring cy aM qM vM_21 vM_r vM_st) → va_S A s.heap H locs → lv_has ls 5 [(0, .ref aM)] → fX9_ring_J21 vM_21 = some (zr, z_vM) → W p l e ({ frames := 2, cells := 0, slots := 0, locals := 43 } : Room) s m ([.ref aM, .int x1, .int x2] : List Value).toArray below meth c H locs 0 0 Q (F0 m 21 ls []) := by
    intro vM_21 H locs ls hP hD hS hl hok
    unfold fX9_ring_J21 at hok
    refine lv_aload_n hx hb dX9_ring_21 rfl (lv_at hl 0 rfl) ?_
    refine lv_iconst (v := 1) hx hb dX9_ring_22 (by decide) ?_
    obtain ⟨⟨r23, vM_23⟩, hc23, hok⟩ := k_bind hok
    try dsimp only at hok
    refine kCi (wc := (wX9_no cy aM qM vM_21)) (wc2 := (wX9_no cy aM qM vM_23)) (wr := [(qM 15, rI cy 224 vM_r), (qM 17, rI cy 9 vM_st)]) (ws2 := (wX9_ring cy aM qM vM_23 vM_r vM_st)) (kRunV (As := [.int 1]) (rest := []) ⟨hx, hb, hml, hown, ht0⟩ (kX9_no l D cy _ aM qM vM_21 (1 : Int32) r23 vM_23 hc23 _ rfl) (cwV 1 ht0 (gV wd862 wd863 wd864 wd744 wd865) rfl rfl rfl (by decide +kernel) ⟨Nat.le_of_ble_eq_true rfl, Nat.le_of_ble_eq_true rfl⟩) hK hN hP hD [0] rfl (by decide) 0 8 rfl rfl rfl hl.1 rfl (Nat.le_of_ble_eq_true rfl) dX9_ring_23 ⟨Nat.zero_le _, Nat.zero_le _⟩) hP hD hS hA [0] [1, 2] rfl rfl (by decide) (by decide) [2, 0, 1] (by decide) rfl rfl (fun H locs hP hD hS => ?_)
    cases hok
    subst hQe; exact W.iret hx hb hr (fun t ht hW => ⟨⟨_, (), rfl, rfl, by rw [ht]; exact hP, va_K.moved hW.alike hK, hD⟩, hS.F ht⟩) hS.2.2 dX9_ring_26
  unfold fX9_ring at hok
  obtain ⟨H, hH⟩ : ∃ H, H = s.heap := ⟨_, rfl⟩
  obtain ⟨locs, hlc⟩ : ∃ x : List Loc, x = [] := ⟨_, rfl⟩
  have hP : va_P D vwCl (wX9_ring cy aM qM vM vM_r vM_st) H := by rw [hH]; exact hP
  have hS : va_S A s.heap H locs := by rw [hH, hlc]; exact hS
  rw [show W p l e _ s m _ below meth c s.heap [] = W p l e _ s m _ below meth c H locs from by rw [hH, hlc]]
  refine lv_aload_n hx hb dX9_ring_0 rfl (lv_at hl 0 rfl) ?_
  obtain ⟨vM_1, hc1, hok⟩ := k_bind hok
  refine kCv (wc := (wX9_good cy aM qM vM)) (wc2 := (wX9_good cy aM qM vM_1)) (wr := [(qM 15, rI cy 224 vM_r), (qM 17, rI cy 9 vM_st)]) (ws2 := (wX9_ring cy aM qM vM_1 vM_r vM_st)) (kRunV (As := []) (rest := []) ⟨hx, hb, hml, hown, ht0⟩ (kX9_good l D cy _ aM qM vM vM_1 hc1 _ rfl) (cwV 0 ht0 (gV wd870 wd871 wd872 wd744 wd873) rfl rfl rfl (by decide +kernel) ⟨Nat.le_of_ble_eq_true rfl, Nat.le_of_ble_eq_true rfl⟩) hK hN hP hD [0] rfl (by decide) 0 8 rfl rfl rfl hl.1 rfl (Nat.le_of_ble_eq_true rfl) dX9_ring_1 ⟨Nat.zero_le _, Nat.zero_le _⟩) hP hD hS hA [0] [1, 2] rfl rfl (by decide) (by decide) [2, 0, 1] (by decide) rfl rfl (fun H locs hP hD hS => ?_)
  refine lv_aload_n hx hb dX9_ring_4 rfl (lv_at hl 0 rfl) ?_
  refine lv_iload_n hx hb dX9_ring_5 rfl (lv_at hl 1 rfl) ?_
  obtain ⟨r6, hc6, hok⟩ := k_bind hok
  refine kCi (wc := (wX9_isRing cy aM qM vM_1 vM_r)) (wc2 := (wX9_isRing cy aM qM vM_1 vM_r)) (wr := [(qM 17, rI cy 9 vM_st)]) (ws2 := (wX9_ring cy aM qM vM_1 vM_r vM_st)) (kRunV (As := [.int x1]) (rest := []) ⟨hx, hb, hml, hown, ht0⟩ (kX9_isRing l D cy _ aM qM vM_1 vM_r x1 r6 hc6 _ rfl) (cwV 1 ht0 (gV wd874 wd875 wd876 wd744 wd877) rfl rfl rfl (by decide +kernel) ⟨Nat.le_of_ble_eq_true rfl, Nat.le_of_ble_eq_true rfl⟩) hK hN hP hD [0, 1] rfl (by decide) 0 8 rfl rfl rfl hl.1 rfl (Nat.le_of_ble_eq_true rfl) dX9_ring_6 ⟨Nat.zero_le _, Nat.zero_le _⟩) hP hD hS hA [0, 1] [2] rfl rfl (by decide) (by decide) [1, 2, 0] (by decide) rfl rfl (fun H locs hP hD hS => ?_)
  refine lv_if_eq (tgt := 21) hx hb dX9_ring_9 (by decide) (fun c9 => ?_) (fun c9 => ?_)
  · have hok := k_pos c9 hok
    exact J21 vM_1 H locs ls hP hD hS (lv_sub hl [0] rfl) hok
  · have hok := k_neg c9 hok
    refine lv_iload_n hx hb dX9_ring_12 rfl (lv_at hl 2 rfl) ?_
    refine lv_iconst (v := 0) hx hb dX9_ring_13 (by decide) ?_
    refine lv_iconst (v := 3) hx hb dX9_ring_14 (by decide) ?_
    obtain ⟨r15, hc15, hok⟩ := k_bind hok
    refine kCi (wc := (wX9_in cy )) (wc2 := (wX9_in cy )) (wr := [(aM, oX9 vM_1 qM), (qM 15, rI cy 224 vM_r), (qM 17, rI cy 9 vM_st)]) (ws2 := (wX9_ring cy aM qM vM_1 vM_r vM_st)) (kRunS (As := [.int x2, .int 0, .int 3]) (rest := []) ⟨hx, hb, hml, hown, ht0⟩ (kX9_in l D cy _ x2 (0 : Int32) (3 : Int32) r15 hc15 _ rfl) (va_cwS 3 ht0 (gS wd787 wd788 wd744 wd789) rfl rfl rfl (by decide +kernel) ⟨Nat.le_of_ble_eq_true rfl, Nat.le_of_ble_eq_true rfl⟩) hK hN hP hD [] rfl (by decide) rfl hl.1 rfl (Nat.le_of_ble_eq_true rfl) dX9_ring_15 ⟨Nat.zero_le _, Nat.zero_le _⟩) hP hD hS hA [] [0, 1, 2] rfl rfl (by decide) (by decide) [0, 1, 2] (by decide) rfl rfl (fun H locs hP hD hS => ?_)
    refine lv_if_ne (tgt := 27) hx hb dX9_ring_18 (by decide) (fun c18 => ?_) (fun c18 => ?_)
    · have hok := k_neg c18 hok
      refine lv_iconst (v := 0) hx hb dX9_ring_27 (by decide) ?_
      refine lv_istore_n (lv' := [(3, .int 0), (0, .ref aM), (1, .int x1), (2, .int x2)]) hx hb dX9_ring_28 rfl hl (by decide) rfl (fun ls hl => ?_)
      refine lv_iconst (v := 0) hx hb dX9_ring_29 (by decide) ?_
      refine lv_istore (lv' := [(4, .int 0), (3, .int 0), (0, .ref aM), (1, .int x1), (2, .int x2)]) hx hb dX9_ring_30 hl (by decide) rfl (fun ls hl => ?_)
      exact L32 5000 (0 : Int32) (0 : Int32) vM_1 H locs ls hP hD hS (lv_sub hl [2, 3, 4, 1, 0] rfl) hok
    · have hok := k_pos c18 hok
      exact J21 vM_1 H locs ls hP hD hS (lv_sub hl [0] rfl) hok
def wsX9_thing : List Cond := .code yX9_thing cX9_thing 3 (some .int) :: W0
abbrev wX9_thing (cy : Nat → ClassId) (aM : Nat) (qM : Nat → Nat) (vM : Nat → Int32) (vM_r : Nat → Int32) (vM_st : Nat → Int32) : va_W := [(aM, oX9 vM qM), (qM 15, rI cy 224 vM_r), (qM 17, rI cy 9 vM_st)]
set_option maxHeartbeats 4000000 in
set_option maxRecDepth 100000 in
theorem kX9_thing (l : Launch) (D : va_G) (cy : Nat → ClassId) (sz : Nat) (aM : Nat) (qM : Nat → Nat) (vM : Nat → Int32) (vM_r : Nat → Int32) (vM_st : Nat → Int32) (x1 : Int32) (x2 : Int32) (zr : Int32) (z_vM : Nat → Int32) (hok : fX9_thing vM vM_r vM_st x1 x2 = some (zr, z_vM)) (A : Nat → Prop) (hAe : va_A (wX9_thing cy aM qM vM vM_r vM_st) sz = A) : Met l yX9_thing wsX9_thing ({ frames := 2, cells := 0, slots := 0, locals := 43 } : Room) (kPre D cy [.ref aM, .int x1, .int x2] (wX9_thing cy aM qM vM vM_r vM_st) sz) (kQi D cy zr A (wX9_thing cy aM qM z_vM vM_r vM_st)) 0 0 A := by
  refine Met.ofW (cc := cX9_thing) (maxL := 3) (ret := (some .int)) (by decide) rfl ?_
  intro p e s m args below meth c s₁ B hml hv
  obtain ⟨rfl, hsz, hP, hK, hD0, hN⟩ := hv
  have hx := B.exec
  have hb := B.bytes
  have hr := B.returns
  have ht0 : ∀ w ∈ W0, w.before _ s = true := fun w h => atoms_spec (ws := wsX9_thing) B.pre w (List.mem_cons_of_mem _ h)
  have hown : s.vm.findClass RX9 = some m.cls := findClass_of_methodNamed B.named
  have hlocks := B.notSynchronized
  subst hsz
  have hD : va_D A (wX9_thing cy aM qM vM vM_r vM_st) := by rw [← hAe]; exact hD0.self
  have hA : ∀ q : Nat, s.heap.size ≤ q → A q := fun q h => by rw [← hAe]; exact Or.inr h
  have hS : va_S A s.heap s.heap [] := va_S.rf
  have hl := lv_entry ([.ref aM, .int x1, .int x2]) (n := 3) (Nat.le_of_ble_eq_true rfl)
  rw [lg_entry_eq]
  generalize (lg_sl ([.ref aM, .int x1, .int x2]) ++ List.replicate (3 - (lg_sl ([.ref aM, .int x1, .int x2])).length) Slot.unset).toArray = ls at hl ⊢
  have hl : lv_has ls 3 [(0, .ref aM), (1, .int x1), (2, .int x2)] := hl
  generalize hQe : MQ below (kQi D cy zr A (wX9_thing cy aM qM z_vM vM_r vM_st)) ([.ref aM, .int x1, .int x2] : List Value).toArray s 0 0 A = Q
  have J21 : ∀ (vM_21 : Nat → Int32), ∀ (H : Heap) (locs : List Loc) (ls : Array Slot), va_P D vwCl (wX9_thing cy aM qM vM_21 vM_r vM_st) H → va_D A (wX9_thing cy aM qM vM_21 vM_r vM_st) → va_S A s.heap H locs → lv_has ls 3 [(0, .ref aM)] → fX9_thing_J21 vM_21 = some (zr, z_vM) → W p l e ({ frames := 2, cells := 0, slots := 0, locals := 43 } : Room) s m ([.ref aM, .int x1, .int x2] : List Value).toArray below meth c H locs 0 0 Q (F0 m 21 ls []) := by
    intro vM_21 H locs ls hP hD hS hl hok
    unfold fX9_thing_J21 at hok
    refine lv_aload_n hx hb dX9_thing_21 rfl (lv_at hl 0 rfl) ?_
    refine lv_iconst (v := 1) hx hb dX9_thing_22 (by decide) ?_
    obtain ⟨⟨r23, vM_23⟩, hc23, hok⟩ := k_bind hok
    try dsimp only at hok
    refine kCi (wc := (wX9_no cy aM qM vM_21)) (wc2 := (wX9_no cy aM qM vM_23)) (wr := [(qM 15, rI cy 224 vM_r), (qM 17, rI cy 9 vM_st)]) (ws2 := (wX9_thing cy aM qM vM_23 vM_r vM_st)) (kRunV (As := [.int 1]) (rest := []) ⟨hx, hb, hml, hown, ht0⟩ (kX9_no l D cy _ aM qM vM_21 (1 : Int32) r23 vM_23 hc23 _ rfl) (cwV 1 ht0 (gV wd862 wd863 wd864 wd744 wd865) rfl rfl rfl (by decide +kernel) ⟨Nat.le_of_ble_eq_true rfl, Nat.le_of_ble_eq_true rfl⟩) hK hN hP hD [0] rfl (by decide) 0 8 rfl rfl rfl hl.1 rfl (Nat.le_of_ble_eq_true rfl) dX9_thing_23 ⟨Nat.zero_le _, Nat.zero_le _⟩) hP hD hS hA [0] [1, 2] rfl rfl (by decide) (by decide) [2, 0, 1] (by decide) rfl rfl (fun H locs hP hD hS => ?_)
    cases hok
    subst hQe; exact W.iret hx hb hr (fun t ht hW => ⟨⟨_, (), rfl, rfl, by rw [ht]; exact hP, va_K.moved hW.alike hK, hD⟩, hS.F ht⟩) hS.2.2 dX9_thing_26
  unfold fX9_thing at hok
  obtain ⟨H, hH⟩ : ∃ H, H = s.heap := ⟨_, rfl⟩
  obtain ⟨locs, hlc⟩ : ∃ x : List Loc, x = [] := ⟨_, rfl⟩
  have hP : va_P D vwCl (wX9_thing cy aM qM vM vM_r vM_st) H := by rw [hH]; exact hP
  have hS : va_S A s.heap H locs := by rw [hH, hlc]; exact hS
  rw [show W p l e _ s m _ below meth c s.heap [] = W p l e _ s m _ below meth c H locs from by rw [hH, hlc]]
  refine lv_aload_n hx hb dX9_thing_0 rfl (lv_at hl 0 rfl) ?_
  obtain ⟨vM_1, hc1, hok⟩ := k_bind hok
  refine kCv (wc := (wX9_good cy aM qM vM)) (wc2 := (wX9_good cy aM qM vM_1)) (wr := [(qM 15, rI cy 224 vM_r), (qM 17, rI cy 9 vM_st)]) (ws2 := (wX9_thing cy aM qM vM_1 vM_r vM_st)) (kRunV (As := []) (rest := []) ⟨hx, hb, hml, hown, ht0⟩ (kX9_good l D cy _ aM qM vM vM_1 hc1 _ rfl) (cwV 0 ht0 (gV wd870 wd871 wd872 wd744 wd873) rfl rfl rfl (by decide +kernel) ⟨Nat.le_of_ble_eq_true rfl, Nat.le_of_ble_eq_true rfl⟩) hK hN hP hD [0] rfl (by decide) 0 8 rfl rfl rfl hl.1 rfl (Nat.le_of_ble_eq_true rfl) dX9_thing_1 ⟨Nat.zero_le _, Nat.zero_le _⟩) hP hD hS hA [0] [1, 2] rfl rfl (by decide) (by decide) [2, 0, 1] (by decide) rfl rfl (fun H locs hP hD hS => ?_)
  refine lv_aload_n hx hb dX9_thing_4 rfl (lv_at hl 0 rfl) ?_
  refine lv_iload_n hx hb dX9_thing_5 rfl (lv_at hl 1 rfl) ?_
  obtain ⟨r6, hc6, hok⟩ := k_bind hok
  refine kCi (wc := (wX9_isThing cy aM qM vM_1 vM_r)) (wc2 := (wX9_isThing cy aM qM vM_1 vM_r)) (wr := [(qM 17, rI cy 9 vM_st)]) (ws2 := (wX9_thing cy aM qM vM_1 vM_r vM_st)) (kRunV (As := [.int x1]) (rest := []) ⟨hx, hb, hml, hown, ht0⟩ (kX9_isThing l D cy _ aM qM vM_1 vM_r x1 r6 hc6 _ rfl) (cwV 1 ht0 (gV wd925 wd926 wd927 wd744 wd928) rfl rfl rfl (by decide +kernel) ⟨Nat.le_of_ble_eq_true rfl, Nat.le_of_ble_eq_true rfl⟩) hK hN hP hD [0, 1] rfl (by decide) 0 8 rfl rfl rfl hl.1 rfl (Nat.le_of_ble_eq_true rfl) dX9_thing_6 ⟨Nat.zero_le _, Nat.zero_le _⟩) hP hD hS hA [0, 1] [2] rfl rfl (by decide) (by decide) [1, 2, 0] (by decide) rfl rfl (fun H locs hP hD hS => ?_)
  refine lv_if_eq (tgt := 21) hx hb dX9_thing_9 (by decide) (fun c9 => ?_) (fun c9 => ?_)
  · have hok := k_pos c9 hok
    exact J21 vM_1 H locs ls hP hD hS (lv_sub hl [0] rfl) hok
  · have hok := k_neg c9 hok
    refine lv_iload_n hx hb dX9_thing_12 rfl (lv_at hl 2 rfl) ?_
    refine lv_iconst (v := 0) hx hb dX9_thing_13 (by decide) ?_
    refine lv_iconst (v := 4) hx hb dX9_thing_14 (by decide) ?_
    obtain ⟨r15, hc15, hok⟩ := k_bind hok
    refine kCi (wc := (wX9_in cy )) (wc2 := (wX9_in cy )) (wr := [(aM, oX9 vM_1 qM), (qM 15, rI cy 224 vM_r), (qM 17, rI cy 9 vM_st)]) (ws2 := (wX9_thing cy aM qM vM_1 vM_r vM_st)) (kRunS (As := [.int x2, .int 0, .int 4]) (rest := []) ⟨hx, hb, hml, hown, ht0⟩ (kX9_in l D cy _ x2 (0 : Int32) (4 : Int32) r15 hc15 _ rfl) (va_cwS 3 ht0 (gS wd787 wd788 wd744 wd789) rfl rfl rfl (by decide +kernel) ⟨Nat.le_of_ble_eq_true rfl, Nat.le_of_ble_eq_true rfl⟩) hK hN hP hD [] rfl (by decide) rfl hl.1 rfl (Nat.le_of_ble_eq_true rfl) dX9_thing_15 ⟨Nat.zero_le _, Nat.zero_le _⟩) hP hD hS hA [] [0, 1, 2] rfl rfl (by decide) (by decide) [0, 1, 2] (by decide) rfl rfl (fun H locs hP hD hS => ?_)
    refine lv_if_ne (tgt := 27) hx hb dX9_thing_18 (by decide) (fun c18 => ?_) (fun c18 => ?_)
    · have hok := k_neg c18 hok
      refine lv_iload_n hx hb dX9_thing_27 rfl (lv_at hl 2 rfl) ?_
      by_cases c28_0 : x2 = 0
      · have hok := k_pos c28_0 hok
        refine lv_tableIn (tgt := 60) (off := 32) hx hb dX9_thing_28 (by rw [c28_0]; decide) (by rw [c28_0]; decide) (by rw [c28_0]; decide) (by decide) ?_
        refine lv_aload_n hx hb dX9_thing_60 rfl (lv_at hl 0 rfl) ?_
        refine lv_iload_n hx hb dX9_thing_61 rfl (lv_at hl 1 rfl) ?_
        obtain ⟨r62, hc62, hok⟩ := k_bind hok
        refine kCi (wc := (wX9_kindOf cy aM qM vM_1 vM_r)) (wc2 := (wX9_kindOf cy aM qM vM_1 vM_r)) (wr := [(qM 17, rI cy 9 vM_st)]) (ws2 := (wX9_thing cy aM qM vM_1 vM_r vM_st)) (kRunV (As := [.int x1]) (rest := []) ⟨hx, hb, hml, hown, ht0⟩ (kX9_kindOf l D cy _ aM qM vM_1 vM_r x1 r62 hc62 _ rfl) (cwV 1 ht0 (gV wd886 wd887 wd888 wd744 wd889) rfl rfl rfl (by decide +kernel) ⟨Nat.le_of_ble_eq_true rfl, Nat.le_of_ble_eq_true rfl⟩) hK hN hP hD [0, 1] rfl (by decide) 0 8 rfl rfl rfl hl.1 rfl (Nat.le_of_ble_eq_true rfl) dX9_thing_62 ⟨Nat.zero_le _, Nat.zero_le _⟩) hP hD hS hA [0, 1] [2] rfl rfl (by decide) (by decide) [1, 2, 0] (by decide) rfl rfl (fun H locs hP hD hS => ?_)
        cases hok
        subst hQe; exact W.iret hx hb hr (fun t ht hW => ⟨⟨_, (), rfl, rfl, by rw [ht]; exact hP, va_K.moved hW.alike hK, hD⟩, hS.F ht⟩) hS.2.2 dX9_thing_65
      have hok := k_neg c28_0 hok
      by_cases c28_1 : x2 = 1
      · have hok := k_pos c28_1 hok
        refine lv_tableIn (tgt := 66) (off := 38) hx hb dX9_thing_28 (by rw [c28_1]; decide) (by rw [c28_1]; decide) (by rw [c28_1]; decide) (by decide) ?_
        refine lv_aload_n hx hb dX9_thing_66 rfl (lv_at hl 0 rfl) ?_
        refine va_get (D := D) (ci := 8) (v := .ref (qM 17)) (C := RX9) (T := TX9) (N := 29) hx hb ht0 niX9 hown hK hP 0 rfl rfl 17 (by decide) (ht0 _ wd858) (fun _ h9 => h9) rfl dX9_thing_67 ?_
        refine lv_iload_n hx hb dX9_thing_70 rfl (lv_at hl 1 rfl) ?_
        obtain ⟨g71, hok⟩ := gd_some hok
        refine va_iald hx hb hK hP 2 0 rfl rfl (okI_in g71) dX9_thing_71 ?_
        refine lv_bipush (v := 9) hx hb dX9_thing_72 (by decide) ?_
        refine lv_idiv hx hb dX9_thing_74 (by decide) ?_
        cases hok
        subst hQe; exact W.iret hx hb hr (fun t ht hW => ⟨⟨_, (), rfl, rfl, by rw [ht]; exact hP, va_K.moved hW.alike hK, hD⟩, hS.F ht⟩) hS.2.2 dX9_thing_75
      have hok := k_neg c28_1 hok
      by_cases c28_2 : x2 = 2
      · have hok := k_pos c28_2 hok
        refine lv_tableIn (tgt := 76) (off := 48) hx hb dX9_thing_28 (by rw [c28_2]; decide) (by rw [c28_2]; decide) (by rw [c28_2]; decide) (by decide) ?_
        refine lv_aload_n hx hb dX9_thing_76 rfl (lv_at hl 0 rfl) ?_
        refine va_get (D := D) (ci := 8) (v := .ref (qM 17)) (C := RX9) (T := TX9) (N := 29) hx hb ht0 niX9 hown hK hP 0 rfl rfl 17 (by decide) (ht0 _ wd858) (fun _ h9 => h9) rfl dX9_thing_77 ?_
        refine lv_iload_n hx hb dX9_thing_80 rfl (lv_at hl 1 rfl) ?_
        obtain ⟨g81, hok⟩ := gd_some hok
        refine va_iald hx hb hK hP 2 0 rfl rfl (okI_in g81) dX9_thing_81 ?_
        refine lv_bipush (v := 9) hx hb dX9_thing_82 (by decide) ?_
        refine lv_irem hx hb dX9_thing_84 (by decide) ?_
        cases hok
        subst hQe; exact W.iret hx hb hr (fun t ht hW => ⟨⟨_, (), rfl, rfl, by rw [ht]; exact hP, va_K.moved hW.alike hK, hD⟩, hS.F ht⟩) hS.2.2 dX9_thing_85
      have hok := k_neg c28_2 hok
      by_cases c28_3 : x2 = 3
      · have hok := k_pos c28_3 hok
        refine lv_tableIn (tgt := 86) (off := 58) hx hb dX9_thing_28 (by rw [c28_3]; decide) (by rw [c28_3]; decide) (by rw [c28_3]; decide) (by decide) ?_
        refine lv_aload_n hx hb dX9_thing_86 rfl (lv_at hl 0 rfl) ?_
        refine va_get (D := D) (ci := 8) (v := .ref (qM 15)) (C := RX9) (T := TX9) (N := 29) hx hb ht0 niX9 hown hK hP 0 rfl rfl 15 (by decide) (ht0 _ wd854) (fun _ h9 => h9) rfl dX9_thing_87 ?_
        refine lv_bipush (v := 62) hx hb dX9_thing_90 (by decide) ?_
        refine lv_iconst (v := 3) hx hb dX9_thing_92 (by decide) ?_
        refine lv_iload_n hx hb dX9_thing_93 rfl (lv_at hl 1 rfl) ?_
        refine lv_imul hx hb dX9_thing_94 ?_
        refine lv_iadd hx hb dX9_thing_95 ?_
        refine lv_iconst (v := 2) hx hb dX9_thing_96 (by decide) ?_
        refine lv_iadd hx hb dX9_thing_97 ?_
        obtain ⟨g98, hok⟩ := gd_some hok
        refine va_iald hx hb hK hP 1 0 rfl rfl (okI_in g98) dX9_thing_98 ?_
        cases hok
        subst hQe; exact W.iret hx hb hr (fun t ht hW => ⟨⟨_, (), rfl, rfl, by rw [ht]; exact hP, va_K.moved hW.alike hK, hD⟩, hS.F ht⟩) hS.2.2 dX9_thing_99
      have hok := k_neg c28_3 hok
      refine lv_tableOut (tgt := 100) hx hb dX9_thing_28 (by have q0 := lv_neT c28_0 (a := 0) (by decide); have q1 := lv_neT c28_1 (a := 1) (by decide); have q2 := lv_neT c28_2 (a := 2) (by decide); have q3 := lv_neT c28_3 (a := 3) (by decide); omega) (by decide) ?_
      refine lv_aload_n hx hb dX9_thing_100 rfl (lv_at hl 0 rfl) ?_
      refine va_get (D := D) (ci := 8) (v := .ref (qM 17)) (C := RX9) (T := TX9) (N := 29) hx hb ht0 niX9 hown hK hP 0 rfl rfl 17 (by decide) (ht0 _ wd858) (fun _ h9 => h9) rfl dX9_thing_101 ?_
      refine lv_bipush (v := 7) hx hb dX9_thing_104 (by decide) ?_
      obtain ⟨g106, hok⟩ := gd_some hok
      refine va_iald hx hb hK hP 2 0 rfl rfl (okI_in g106) dX9_thing_106 ?_
      refine lv_iload_n hx hb dX9_thing_107 rfl (lv_at hl 1 rfl) ?_
      refine lv_ishr hx hb dX9_thing_108 ?_
      refine lv_iconst (v := 1) hx hb dX9_thing_109 (by decide) ?_
      refine lv_iand hx hb dX9_thing_110 ?_
      cases hok
      subst hQe; exact W.iret hx hb hr (fun t ht hW => ⟨⟨_, (), rfl, rfl, by rw [ht]; exact hP, va_K.moved hW.alike hK, hD⟩, hS.F ht⟩) hS.2.2 dX9_thing_111
    · have hok := k_pos c18 hok
      exact J21 vM_1 H locs ls hP hD hS (lv_sub hl [0] rfl) hok
def wsX9_at : List Cond := .code yX9_at cX9_at 3 (some .int) :: W0
abbrev wX9_at (cy : Nat → ClassId) (aM : Nat) (qM : Nat → Nat) (vM : Nat → Int32) (vM_r : Nat → Int32) (vM_st : Nat → Int32) : va_W := [(aM, oX9 vM qM), (qM 15, rI cy 224 vM_r), (qM 17, rI cy 9 vM_st)]
set_option maxHeartbeats 4000000 in
set_option maxRecDepth 100000 in
theorem kX9_at (l : Launch) (D : va_G) (cy : Nat → ClassId) (sz : Nat) (aM : Nat) (qM : Nat → Nat) (vM : Nat → Int32) (vM_r : Nat → Int32) (vM_st : Nat → Int32) (x1 : Int32) (x2 : Int32) (zr : Int32) (z_vM : Nat → Int32) (hok : fX9_at vM vM_r vM_st x1 x2 = some (zr, z_vM)) (A : Nat → Prop) (hAe : va_A (wX9_at cy aM qM vM vM_r vM_st) sz = A) : Met l yX9_at wsX9_at ({ frames := 3, cells := 0, slots := 0, locals := 65 } : Room) (kPre D cy [.ref aM, .int x1, .int x2] (wX9_at cy aM qM vM vM_r vM_st) sz) (kQi D cy zr A (wX9_at cy aM qM z_vM vM_r vM_st)) 0 0 A := by
  refine Met.ofW (cc := cX9_at) (maxL := 3) (ret := (some .int)) (by decide) rfl ?_
  intro p e s m args below meth c s₁ B hml hv
  obtain ⟨rfl, hsz, hP, hK, hD0, hN⟩ := hv
  have hx := B.exec
  have hb := B.bytes
  have hr := B.returns
  have ht0 : ∀ w ∈ W0, w.before _ s = true := fun w h => atoms_spec (ws := wsX9_at) B.pre w (List.mem_cons_of_mem _ h)
  have hown : s.vm.findClass RX9 = some m.cls := findClass_of_methodNamed B.named
  have hlocks := B.notSynchronized
  subst hsz
  have hD : va_D A (wX9_at cy aM qM vM vM_r vM_st) := by rw [← hAe]; exact hD0.self
  have hA : ∀ q : Nat, s.heap.size ≤ q → A q := fun q h => by rw [← hAe]; exact Or.inr h
  have hS : va_S A s.heap s.heap [] := va_S.rf
  have hl := lv_entry ([.ref aM, .int x1, .int x2]) (n := 3) (Nat.le_of_ble_eq_true rfl)
  rw [lg_entry_eq]
  generalize (lg_sl ([.ref aM, .int x1, .int x2]) ++ List.replicate (3 - (lg_sl ([.ref aM, .int x1, .int x2])).length) Slot.unset).toArray = ls at hl ⊢
  have hl : lv_has ls 3 [(0, .ref aM), (1, .int x1), (2, .int x2)] := hl
  generalize hQe : MQ below (kQi D cy zr A (wX9_at cy aM qM z_vM vM_r vM_st)) ([.ref aM, .int x1, .int x2] : List Value).toArray s 0 0 A = Q
  have J35 : ∀ (t0_35 : Int32) (vM_35 : Nat → Int32), ∀ (H : Heap) (locs : List Loc) (ls : Array Slot), va_P D vwCl (wX9_at cy aM qM vM_35 vM_r vM_st) H → va_D A (wX9_at cy aM qM vM_35 vM_r vM_st) → va_S A s.heap H locs → lv_has ls 3 [] → fX9_at_J35 t0_35 vM_35 = some (zr, z_vM) → W p l e ({ frames := 3, cells := 0, slots := 0, locals := 65 } : Room) s m ([.ref aM, .int x1, .int x2] : List Value).toArray below meth c H locs 0 0 Q (F0 m 35 ls [.int t0_35]) := by
    intro t0_35 vM_35 H locs ls hP hD hS hl hok
    unfold fX9_at_J35 at hok
    cases hok
    subst hQe; exact W.iret hx hb hr (fun t ht hW => ⟨⟨_, (), rfl, rfl, by rw [ht]; exact hP, va_K.moved hW.alike hK, hD⟩, hS.F ht⟩) hS.2.2 dX9_at_35
  unfold fX9_at at hok
  obtain ⟨H, hH⟩ : ∃ H, H = s.heap := ⟨_, rfl⟩
  obtain ⟨locs, hlc⟩ : ∃ x : List Loc, x = [] := ⟨_, rfl⟩
  have hP : va_P D vwCl (wX9_at cy aM qM vM vM_r vM_st) H := by rw [hH]; exact hP
  have hS : va_S A s.heap H locs := by rw [hH, hlc]; exact hS
  rw [show W p l e _ s m _ below meth c s.heap [] = W p l e _ s m _ below meth c H locs from by rw [hH, hlc]]
  refine lv_aload_n hx hb dX9_at_0 rfl (lv_at hl 0 rfl) ?_
  obtain ⟨vM_1, hc1, hok⟩ := k_bind hok
  refine kCv (wc := (wX9_good cy aM qM vM)) (wc2 := (wX9_good cy aM qM vM_1)) (wr := [(qM 15, rI cy 224 vM_r), (qM 17, rI cy 9 vM_st)]) (ws2 := (wX9_at cy aM qM vM_1 vM_r vM_st)) (kRunV (As := []) (rest := []) ⟨hx, hb, hml, hown, ht0⟩ (kX9_good l D cy _ aM qM vM vM_1 hc1 _ rfl) (cwV 0 ht0 (gV wd870 wd871 wd872 wd744 wd873) rfl rfl rfl (by decide +kernel) ⟨Nat.le_of_ble_eq_true rfl, Nat.le_of_ble_eq_true rfl⟩) hK hN hP hD [0] rfl (by decide) 0 8 rfl rfl rfl hl.1 rfl (Nat.le_of_ble_eq_true rfl) dX9_at_1 ⟨Nat.zero_le _, Nat.zero_le _⟩) hP hD hS hA [0] [1, 2] rfl rfl (by decide) (by decide) [2, 0, 1] (by decide) rfl rfl (fun H locs hP hD hS => ?_)
  refine lv_aload_n hx hb dX9_at_4 rfl (lv_at hl 0 rfl) ?_
  refine lv_iload_n hx hb dX9_at_5 rfl (lv_at hl 1 rfl) ?_
  refine lv_iload_n hx hb dX9_at_6 rfl (lv_at hl 2 rfl) ?_
  obtain ⟨r7, hc7, hok⟩ := k_bind hok
  refine kCi (wc := (wX9_isPlace cy aM qM vM_1 vM_r)) (wc2 := (wX9_isPlace cy aM qM vM_1 vM_r)) (wr := [(qM 17, rI cy 9 vM_st)]) (ws2 := (wX9_at cy aM qM vM_1 vM_r vM_st)) (kRunV (As := [.int x1, .int x2]) (rest := []) ⟨hx, hb, hml, hown, ht0⟩ (kX9_isPlace l D cy _ aM qM vM_1 vM_r x1 x2 r7 hc7 _ rfl) (cwV 2 ht0 (gV wd929 wd930 wd931 wd744 wd932) rfl rfl rfl (by decide +kernel) ⟨Nat.le_of_ble_eq_true rfl, Nat.le_of_ble_eq_true rfl⟩) hK hN hP hD [0, 1] rfl (by decide) 0 8 rfl rfl rfl hl.1 rfl (Nat.le_of_ble_eq_true rfl) dX9_at_7 ⟨Nat.zero_le _, Nat.zero_le _⟩) hP hD hS hA [0, 1] [2] rfl rfl (by decide) (by decide) [1, 2, 0] (by decide) rfl rfl (fun H locs hP hD hS => ?_)
  refine lv_if_eq (tgt := 30) hx hb dX9_at_10 (by decide) (fun c10 => ?_) (fun c10 => ?_)
  · have hok := k_pos c10 hok
    refine lv_aload_n hx hb dX9_at_30 rfl (lv_at hl 0 rfl) ?_
    refine lv_iconst (v := 1) hx hb dX9_at_31 (by decide) ?_
    obtain ⟨⟨r32, vM_32⟩, hc32, hok⟩ := k_bind hok
    try dsimp only at hok
    refine kCi (wc := (wX9_no cy aM qM vM_1)) (wc2 := (wX9_no cy aM qM vM_32)) (wr := [(qM 15, rI cy 224 vM_r), (qM 17, rI cy 9 vM_st)]) (ws2 := (wX9_at cy aM qM vM_32 vM_r vM_st)) (kRunV (As := [.int 1]) (rest := []) ⟨hx, hb, hml, hown, ht0⟩ (kX9_no l D cy _ aM qM vM_1 (1 : Int32) r32 vM_32 hc32 _ rfl) (cwV 1 ht0 (gV wd862 wd863 wd864 wd744 wd865) rfl rfl rfl (by decide +kernel) ⟨Nat.le_of_ble_eq_true rfl, Nat.le_of_ble_eq_true rfl⟩) hK hN hP hD [0] rfl (by decide) 0 8 rfl rfl rfl hl.1 rfl (Nat.le_of_ble_eq_true rfl) dX9_at_32 ⟨Nat.zero_le _, Nat.zero_le _⟩) hP hD hS hA [0] [1, 2] rfl rfl (by decide) (by decide) [2, 0, 1] (by decide) rfl rfl (fun H locs hP hD hS => ?_)
    exact J35 r32 vM_32 H locs ls hP hD hS (lv_sub hl [] rfl) hok
  · have hok := k_neg c10 hok
    refine lv_aload_n hx hb dX9_at_13 rfl (lv_at hl 0 rfl) ?_
    refine lv_aload_n hx hb dX9_at_14 rfl (lv_at hl 0 rfl) ?_
    refine va_get (D := D) (ci := 8) (v := .ref (qM 17)) (C := RX9) (T := TX9) (N := 29) hx hb ht0 niX9 hown hK hP 0 rfl rfl 17 (by decide) (ht0 _ wd858) (fun _ h9 => h9) rfl dX9_at_15 ?_
    refine lv_bipush (v := 9) hx hb dX9_at_18 (by decide) ?_
    refine lv_iload_n hx hb dX9_at_20 rfl (lv_at hl 1 rfl) ?_
    refine lv_imul hx hb dX9_at_21 ?_
    refine lv_iload_n hx hb dX9_at_22 rfl (lv_at hl 2 rfl) ?_
    refine lv_iadd hx hb dX9_at_23 ?_
    obtain ⟨r24, hc24, hok⟩ := k_bind hok
    refine kCi (wc := (wX9_thingAt cy aM (qM 17) qM vM_1 vM_r 9 vM_st)) (wc2 := (wX9_thingAt cy aM (qM 17) qM vM_1 vM_r 9 vM_st)) (wr := []) (ws2 := (wX9_at cy aM qM vM_1 vM_r vM_st)) (kRunV (As := [.ref (qM 17), .int (((9 : Int32) * x1) + x2)]) (rest := []) ⟨hx, hb, hml, hown, ht0⟩ (kX9_thingAt l D cy _ aM (qM 17) qM vM_1 vM_r 9 vM_st (((9 : Int32) * x1) + x2) r24 hc24 _ rfl) (cwV 2 ht0 (gV wd901 wd902 wd903 wd744 wd904) rfl rfl rfl (by decide +kernel) ⟨Nat.le_of_ble_eq_true rfl, Nat.le_of_ble_eq_true rfl⟩) hK hN hP hD [0, 1, 2] rfl (by decide) 0 8 rfl rfl rfl hl.1 rfl (Nat.le_of_ble_eq_true rfl) dX9_at_24 ⟨Nat.zero_le _, Nat.zero_le _⟩) hP hD hS hA [0, 1, 2] [] rfl rfl (by decide) (by decide) [0, 1, 2] (by decide) rfl rfl (fun H locs hP hD hS => ?_)
    refine lv_goto (tgt := 35) hx hb dX9_at_27 (by decide) ?_
    exact J35 r24 vM_1 H locs ls hP hD hS (lv_sub hl [] rfl) hok
def wsX9_narrow : List Cond := .code yX9_narrow cX9_narrow 4 (some .int) :: W0
abbrev wX9_narrow (cy : Nat → ClassId) (aM : Nat) (qM : Nat → Nat) (vM : Nat → Int32) (vM_r : Nat → Int32) : va_W := [(aM, oX9 vM qM), (qM 15, rI cy 224 vM_r)]
set_option maxHeartbeats 4000000 in
set_option maxRecDepth 100000 in
theorem kX9_narrow (l : Launch) (D : va_G) (cy : Nat → ClassId) (sz : Nat) (aM : Nat) (qM : Nat → Nat) (vM : Nat → Int32) (vM_r : Nat → Int32) (x1 : Int32) (x2 : Int32) (zr : Int32) (z_vM : Nat → Int32) (hok : fX9_narrow vM vM_r x1 x2 = some (zr, z_vM)) (A : Nat → Prop) (hAe : va_A (wX9_narrow cy aM qM vM vM_r) sz = A) : Met l yX9_narrow wsX9_narrow ({ frames := 3, cells := 0, slots := 0, locals := 65 } : Room) (kPre D cy [.ref aM, .int x1, .int x2] (wX9_narrow cy aM qM vM vM_r) sz) (kQi D cy zr A (wX9_narrow cy aM qM z_vM vM_r)) 0 0 A := by
  refine Met.ofW (cc := cX9_narrow) (maxL := 4) (ret := (some .int)) (by decide) rfl ?_
  intro p e s m args below meth c s₁ B hml hv
  obtain ⟨rfl, hsz, hP, hK, hD0, hN⟩ := hv
  have hx := B.exec
  have hb := B.bytes
  have hr := B.returns
  have ht0 : ∀ w ∈ W0, w.before _ s = true := fun w h => atoms_spec (ws := wsX9_narrow) B.pre w (List.mem_cons_of_mem _ h)
  have hown : s.vm.findClass RX9 = some m.cls := findClass_of_methodNamed B.named
  have hlocks := B.notSynchronized
  subst hsz
  have hD : va_D A (wX9_narrow cy aM qM vM vM_r) := by rw [← hAe]; exact hD0.self
  have hA : ∀ q : Nat, s.heap.size ≤ q → A q := fun q h => by rw [← hAe]; exact Or.inr h
  have hS : va_S A s.heap s.heap [] := va_S.rf
  have hl := lv_entry ([.ref aM, .int x1, .int x2]) (n := 4) (Nat.le_of_ble_eq_true rfl)
  rw [lg_entry_eq]
  generalize (lg_sl ([.ref aM, .int x1, .int x2]) ++ List.replicate (4 - (lg_sl ([.ref aM, .int x1, .int x2])).length) Slot.unset).toArray = ls at hl ⊢
  have hl : lv_has ls 4 [(0, .ref aM), (1, .int x1), (2, .int x2)] := hl
  generalize hQe : MQ below (kQi D cy zr A (wX9_narrow cy aM qM z_vM vM_r)) ([.ref aM, .int x1, .int x2] : List Value).toArray s 0 0 A = Q
  have J46 : ∀ (t0_46 : Int32) (vM_46 : Nat → Int32), ∀ (H : Heap) (locs : List Loc) (ls : Array Slot), va_P D vwCl (wX9_narrow cy aM qM vM_46 vM_r) H → va_D A (wX9_narrow cy aM qM vM_46 vM_r) → va_S A s.heap H locs → lv_has ls 4 [] → fX9_narrow_J46 t0_46 vM_46 = some (zr, z_vM) → W p l e ({ frames := 3, cells := 0, slots := 0, locals := 65 } : Room) s m ([.ref aM, .int x1, .int x2] : List Value).toArray below meth c H locs 0 0 Q (F0 m 46 ls [.int t0_46]) := by
    intro t0_46 vM_46 H locs ls hP hD hS hl hok
    unfold fX9_narrow_J46 at hok
    cases hok
    subst hQe; exact W.iret hx hb hr (fun t ht hW => ⟨⟨_, (), rfl, rfl, by rw [ht]; exact hP, va_K.moved hW.alike hK, hD⟩, hS.F ht⟩) hS.2.2 dX9_narrow_46
  unfold fX9_narrow at hok
  obtain ⟨H, hH⟩ : ∃ H, H = s.heap := ⟨_, rfl⟩
  obtain ⟨locs, hlc⟩ : ∃ x : List Loc, x = [] := ⟨_, rfl⟩
  have hP : va_P D vwCl (wX9_narrow cy aM qM vM vM_r) H := by rw [hH]; exact hP
  have hS : va_S A s.heap H locs := by rw [hH, hlc]; exact hS
  rw [show W p l e _ s m _ below meth c s.heap [] = W p l e _ s m _ below meth c H locs from by rw [hH, hlc]]
  refine lv_aload_n hx hb dX9_narrow_0 rfl (lv_at hl 0 rfl) ?_
  obtain ⟨vM_1, hc1, hok⟩ := k_bind hok
  refine kCv (wc := (wX9_good cy aM qM vM)) (wc2 := (wX9_good cy aM qM vM_1)) (wr := [(qM 15, rI cy 224 vM_r)]) (ws2 := (wX9_narrow cy aM qM vM_1 vM_r)) (kRunV (As := []) (rest := []) ⟨hx, hb, hml, hown, ht0⟩ (kX9_good l D cy _ aM qM vM vM_1 hc1 _ rfl) (cwV 0 ht0 (gV wd870 wd871 wd872 wd744 wd873) rfl rfl rfl (by decide +kernel) ⟨Nat.le_of_ble_eq_true rfl, Nat.le_of_ble_eq_true rfl⟩) hK hN hP hD [0] rfl (by decide) 0 8 rfl rfl rfl hl.1 rfl (Nat.le_of_ble_eq_true rfl) dX9_narrow_1 ⟨Nat.zero_le _, Nat.zero_le _⟩) hP hD hS hA [0] [1] rfl rfl (by decide) (by decide) [1, 0] (by decide) rfl rfl (fun H locs hP hD hS => ?_)
  refine lv_aload_n hx hb dX9_narrow_4 rfl (lv_at hl 0 rfl) ?_
  refine lv_iload_n hx hb dX9_narrow_5 rfl (lv_at hl 1 rfl) ?_
  refine lv_iload_n hx hb dX9_narrow_6 rfl (lv_at hl 2 rfl) ?_
  obtain ⟨r7, hc7, hok⟩ := k_bind hok
  refine kCi (wc := (wX9_isPlace cy aM qM vM_1 vM_r)) (wc2 := (wX9_isPlace cy aM qM vM_1 vM_r)) (wr := []) (ws2 := (wX9_narrow cy aM qM vM_1 vM_r)) (kRunV (As := [.int x1, .int x2]) (rest := []) ⟨hx, hb, hml, hown, ht0⟩ (kX9_isPlace l D cy _ aM qM vM_1 vM_r x1 x2 r7 hc7 _ rfl) (cwV 2 ht0 (gV wd929 wd930 wd931 wd744 wd932) rfl rfl rfl (by decide +kernel) ⟨Nat.le_of_ble_eq_true rfl, Nat.le_of_ble_eq_true rfl⟩) hK hN hP hD [0, 1] rfl (by decide) 0 8 rfl rfl rfl hl.1 rfl (Nat.le_of_ble_eq_true rfl) dX9_narrow_7 ⟨Nat.zero_le _, Nat.zero_le _⟩) hP hD hS hA [0, 1] [] rfl rfl (by decide) (by decide) [0, 1] (by decide) rfl rfl (fun H locs hP hD hS => ?_)
  refine lv_if_ne (tgt := 19) hx hb dX9_narrow_10 (by decide) (fun c10 => ?_) (fun c10 => ?_)
  · have hok := k_neg c10 hok
    refine lv_aload_n hx hb dX9_narrow_19 rfl (lv_at hl 0 rfl) ?_
    refine va_get (D := D) (ci := 8) (v := .ref (qM 15)) (C := RX9) (T := TX9) (N := 29) hx hb ht0 niX9 hown hK hP 0 rfl rfl 15 (by decide) (ht0 _ wd854) (fun _ h9 => h9) rfl dX9_narrow_20 ?_
    refine lv_bipush (v := 16) hx hb dX9_narrow_23 (by decide) ?_
    refine lv_bipush (v := 9) hx hb dX9_narrow_25 (by decide) ?_
    refine lv_iload_n hx hb dX9_narrow_27 rfl (lv_at hl 1 rfl) ?_
    refine lv_imul hx hb dX9_narrow_28 ?_
    refine lv_iadd hx hb dX9_narrow_29 ?_
    refine lv_iload_n hx hb dX9_narrow_30 rfl (lv_at hl 2 rfl) ?_
    refine lv_iadd hx hb dX9_narrow_31 ?_
    obtain ⟨g32, hok⟩ := gd_some hok
    refine va_iald hx hb hK hP 1 0 rfl rfl (okI_in g32) dX9_narrow_32 ?_
    refine lv_istore_n (lv' := [(3, .int (vM_r (((16 : Int32) + ((9 : Int32) * x1)) + x2).toNatClampNeg)), (0, .ref aM), (1, .int x1), (2, .int x2)]) hx hb dX9_narrow_33 rfl hl (by decide) rfl (fun ls hl => ?_)
    refine lv_iload_n hx hb dX9_narrow_34 rfl (lv_at hl 0 rfl) ?_
    refine lv_if_ne (tgt := 43) hx hb dX9_narrow_35 (by decide) (fun c35 => ?_) (fun c35 => ?_)
    · have hok := k_neg c35 hok
      refine lv_iload_n hx hb dX9_narrow_43 rfl (lv_at hl 0 rfl) ?_
      refine lv_iconst (v := 1) hx hb dX9_narrow_44 (by decide) ?_
      refine lv_isub hx hb dX9_narrow_45 ?_
      exact J46 ((vM_r (((16 : Int32) + ((9 : Int32) * x1)) + x2).toNatClampNeg) - (1 : Int32)) vM_1 H locs ls hP hD hS (lv_sub hl [] rfl) hok
    · have hok := k_pos c35 hok
      refine lv_bipush (v := -2) hx hb dX9_narrow_38 (by decide) ?_
      refine lv_goto (tgt := 46) hx hb dX9_narrow_40 (by decide) ?_
      exact J46 (-2 : Int32) vM_1 H locs ls hP hD hS (lv_sub hl [] rfl) hok
  · have hok := k_pos c10 hok
    refine lv_aload_n hx hb dX9_narrow_13 rfl (lv_at hl 0 rfl) ?_
    refine lv_iconst (v := 1) hx hb dX9_narrow_14 (by decide) ?_
    obtain ⟨⟨r15, vM_15⟩, hc15, hok⟩ := k_bind hok
    try dsimp only at hok
    refine kCi (wc := (wX9_no cy aM qM vM_1)) (wc2 := (wX9_no cy aM qM vM_15)) (wr := [(qM 15, rI cy 224 vM_r)]) (ws2 := (wX9_narrow cy aM qM vM_15 vM_r)) (kRunV (As := [.int 1]) (rest := []) ⟨hx, hb, hml, hown, ht0⟩ (kX9_no l D cy _ aM qM vM_1 (1 : Int32) r15 vM_15 hc15 _ rfl) (cwV 1 ht0 (gV wd862 wd863 wd864 wd744 wd865) rfl rfl rfl (by decide +kernel) ⟨Nat.le_of_ble_eq_true rfl, Nat.le_of_ble_eq_true rfl⟩) hK hN hP hD [0] rfl (by decide) 0 8 rfl rfl rfl hl.1 rfl (Nat.le_of_ble_eq_true rfl) dX9_narrow_15 ⟨Nat.zero_le _, Nat.zero_le _⟩) hP hD hS hA [0] [1] rfl rfl (by decide) (by decide) [1, 0] (by decide) rfl rfl (fun H locs hP hD hS => ?_)
    cases hok
    subst hQe; exact W.iret hx hb hr (fun t ht hW => ⟨⟨_, (), rfl, rfl, by rw [ht]; exact hP, va_K.moved hW.alike hK, hD⟩, hS.F ht⟩) hS.2.2 dX9_narrow_18
def wsX9_ahead : List Cond := .code yX9_ahead cX9_ahead 2 (some .int) :: W0
abbrev wX9_ahead (cy : Nat → ClassId) (aM : Nat) (qM : Nat → Nat) (vM : Nat → Int32) (vM_r : Nat → Int32) (vM_st : Nat → Int32) : va_W := [(aM, oX9 vM qM), (qM 15, rI cy 224 vM_r), (qM 17, rI cy 9 vM_st)]
set_option maxHeartbeats 4000000 in
set_option maxRecDepth 100000 in
theorem kX9_ahead (l : Launch) (D : va_G) (cy : Nat → ClassId) (sz : Nat) (aM : Nat) (qM : Nat → Nat) (vM : Nat → Int32) (vM_r : Nat → Int32) (vM_st : Nat → Int32) (x1 : Int32) (zr : Int32) (z_vM : Nat → Int32) (hok : fX9_ahead vM vM_r vM_st x1 = some (zr, z_vM)) (A : Nat → Prop) (hAe : va_A (wX9_ahead cy aM qM vM vM_r vM_st) sz = A) : Met l yX9_ahead wsX9_ahead ({ frames := 2, cells := 0, slots := 0, locals := 45 } : Room) (kPre D cy [.ref aM, .int x1] (wX9_ahead cy aM qM vM vM_r vM_st) sz) (kQi D cy zr A (wX9_ahead cy aM qM z_vM vM_r vM_st)) 0 0 A := by
  refine Met.ofW (cc := cX9_ahead) (maxL := 2) (ret := (some .int)) (by decide) rfl ?_
  intro p e s m args below meth c s₁ B hml hv
  obtain ⟨rfl, hsz, hP, hK, hD0, hN⟩ := hv
  have hx := B.exec
  have hb := B.bytes
  have hr := B.returns
  have ht0 : ∀ w ∈ W0, w.before _ s = true := fun w h => atoms_spec (ws := wsX9_ahead) B.pre w (List.mem_cons_of_mem _ h)
  have hown : s.vm.findClass RX9 = some m.cls := findClass_of_methodNamed B.named
  have hlocks := B.notSynchronized
  subst hsz
  have hD : va_D A (wX9_ahead cy aM qM vM vM_r vM_st) := by rw [← hAe]; exact hD0.self
  have hA : ∀ q : Nat, s.heap.size ≤ q → A q := fun q h => by rw [← hAe]; exact Or.inr h
  have hS : va_S A s.heap s.heap [] := va_S.rf
  have hl := lv_entry ([.ref aM, .int x1]) (n := 2) (Nat.le_of_ble_eq_true rfl)
  rw [lg_entry_eq]
  generalize (lg_sl ([.ref aM, .int x1]) ++ List.replicate (2 - (lg_sl ([.ref aM, .int x1])).length) Slot.unset).toArray = ls at hl ⊢
  have hl : lv_has ls 2 [(0, .ref aM), (1, .int x1)] := hl
  generalize hQe : MQ below (kQi D cy zr A (wX9_ahead cy aM qM z_vM vM_r vM_st)) ([.ref aM, .int x1] : List Value).toArray s 0 0 A = Q
  have J33 : ∀ (t0_33 : Int32) (vM_33 : Nat → Int32), ∀ (H : Heap) (locs : List Loc) (ls : Array Slot), va_P D vwCl (wX9_ahead cy aM qM vM_33 vM_r vM_st) H → va_D A (wX9_ahead cy aM qM vM_33 vM_r vM_st) → va_S A s.heap H locs → lv_has ls 2 [] → fX9_ahead_J33 t0_33 vM_33 = some (zr, z_vM) → W p l e ({ frames := 2, cells := 0, slots := 0, locals := 45 } : Room) s m ([.ref aM, .int x1] : List Value).toArray below meth c H locs 0 0 Q (F0 m 33 ls [.int t0_33]) := by
    intro t0_33 vM_33 H locs ls hP hD hS hl hok
    unfold fX9_ahead_J33 at hok
    cases hok
    subst hQe; exact W.iret hx hb hr (fun t ht hW => ⟨⟨_, (), rfl, rfl, by rw [ht]; exact hP, va_K.moved hW.alike hK, hD⟩, hS.F ht⟩) hS.2.2 dX9_ahead_33
  unfold fX9_ahead at hok
  obtain ⟨H, hH⟩ : ∃ H, H = s.heap := ⟨_, rfl⟩
  obtain ⟨locs, hlc⟩ : ∃ x : List Loc, x = [] := ⟨_, rfl⟩
  have hP : va_P D vwCl (wX9_ahead cy aM qM vM vM_r vM_st) H := by rw [hH]; exact hP
  have hS : va_S A s.heap H locs := by rw [hH, hlc]; exact hS
  rw [show W p l e _ s m _ below meth c s.heap [] = W p l e _ s m _ below meth c H locs from by rw [hH, hlc]]
  refine lv_aload_n hx hb dX9_ahead_0 rfl (lv_at hl 0 rfl) ?_
  obtain ⟨vM_1, hc1, hok⟩ := k_bind hok
  refine kCv (wc := (wX9_good cy aM qM vM)) (wc2 := (wX9_good cy aM qM vM_1)) (wr := [(qM 15, rI cy 224 vM_r), (qM 17, rI cy 9 vM_st)]) (ws2 := (wX9_ahead cy aM qM vM_1 vM_r vM_st)) (kRunV (As := []) (rest := []) ⟨hx, hb, hml, hown, ht0⟩ (kX9_good l D cy _ aM qM vM vM_1 hc1 _ rfl) (cwV 0 ht0 (gV wd870 wd871 wd872 wd744 wd873) rfl rfl rfl (by decide +kernel) ⟨Nat.le_of_ble_eq_true rfl, Nat.le_of_ble_eq_true rfl⟩) hK hN hP hD [0] rfl (by decide) 0 8 rfl rfl rfl hl.1 rfl (Nat.le_of_ble_eq_true rfl) dX9_ahead_1 ⟨Nat.zero_le _, Nat.zero_le _⟩) hP hD hS hA [0] [1, 2] rfl rfl (by decide) (by decide) [2, 0, 1] (by decide) rfl rfl (fun H locs hP hD hS => ?_)
  refine lv_aload_n hx hb dX9_ahead_4 rfl (lv_at hl 0 rfl) ?_
  refine lv_iload_n hx hb dX9_ahead_5 rfl (lv_at hl 1 rfl) ?_
  obtain ⟨r6, hc6, hok⟩ := k_bind hok
  refine kCi (wc := (wX9_isThing cy aM qM vM_1 vM_r)) (wc2 := (wX9_isThing cy aM qM vM_1 vM_r)) (wr := [(qM 17, rI cy 9 vM_st)]) (ws2 := (wX9_ahead cy aM qM vM_1 vM_r vM_st)) (kRunV (As := [.int x1]) (rest := []) ⟨hx, hb, hml, hown, ht0⟩ (kX9_isThing l D cy _ aM qM vM_1 vM_r x1 r6 hc6 _ rfl) (cwV 1 ht0 (gV wd925 wd926 wd927 wd744 wd928) rfl rfl rfl (by decide +kernel) ⟨Nat.le_of_ble_eq_true rfl, Nat.le_of_ble_eq_true rfl⟩) hK hN hP hD [0, 1] rfl (by decide) 0 8 rfl rfl rfl hl.1 rfl (Nat.le_of_ble_eq_true rfl) dX9_ahead_6 ⟨Nat.zero_le _, Nat.zero_le _⟩) hP hD hS hA [0, 1] [2] rfl rfl (by decide) (by decide) [1, 2, 0] (by decide) rfl rfl (fun H locs hP hD hS => ?_)
  refine lv_if_eq (tgt := 28) hx hb dX9_ahead_9 (by decide) (fun c9 => ?_) (fun c9 => ?_)
  · have hok := k_pos c9 hok
    refine lv_aload_n hx hb dX9_ahead_28 rfl (lv_at hl 0 rfl) ?_
    refine lv_iconst (v := 1) hx hb dX9_ahead_29 (by decide) ?_
    obtain ⟨⟨r30, vM_30⟩, hc30, hok⟩ := k_bind hok
    try dsimp only at hok
    refine kCi (wc := (wX9_no cy aM qM vM_1)) (wc2 := (wX9_no cy aM qM vM_30)) (wr := [(qM 15, rI cy 224 vM_r), (qM 17, rI cy 9 vM_st)]) (ws2 := (wX9_ahead cy aM qM vM_30 vM_r vM_st)) (kRunV (As := [.int 1]) (rest := []) ⟨hx, hb, hml, hown, ht0⟩ (kX9_no l D cy _ aM qM vM_1 (1 : Int32) r30 vM_30 hc30 _ rfl) (cwV 1 ht0 (gV wd862 wd863 wd864 wd744 wd865) rfl rfl rfl (by decide +kernel) ⟨Nat.le_of_ble_eq_true rfl, Nat.le_of_ble_eq_true rfl⟩) hK hN hP hD [0] rfl (by decide) 0 8 rfl rfl rfl hl.1 rfl (Nat.le_of_ble_eq_true rfl) dX9_ahead_30 ⟨Nat.zero_le _, Nat.zero_le _⟩) hP hD hS hA [0] [1, 2] rfl rfl (by decide) (by decide) [2, 0, 1] (by decide) rfl rfl (fun H locs hP hD hS => ?_)
    exact J33 r30 vM_30 H locs ls hP hD hS (lv_sub hl [] rfl) hok
  · have hok := k_neg c9 hok
    refine lv_aload_n hx hb dX9_ahead_12 rfl (lv_at hl 0 rfl) ?_
    refine lv_aload_n hx hb dX9_ahead_13 rfl (lv_at hl 0 rfl) ?_
    refine va_get (D := D) (ci := 8) (v := .ref (qM 17)) (C := RX9) (T := TX9) (N := 29) hx hb ht0 niX9 hown hK hP 0 rfl rfl 17 (by decide) (ht0 _ wd858) (fun _ h9 => h9) rfl dX9_ahead_14 ?_
    refine lv_iload_n hx hb dX9_ahead_17 rfl (lv_at hl 1 rfl) ?_
    obtain ⟨g18, hok⟩ := gd_some hok
    refine va_iald hx hb hK hP 2 0 rfl rfl (okI_in g18) dX9_ahead_18 ?_
    obtain ⟨r19, hc19, hok⟩ := k_bind hok
    refine kCi (wc := (wX9_aheadOf cy aM qM vM_1 vM_r)) (wc2 := (wX9_aheadOf cy aM qM vM_1 vM_r)) (wr := [(qM 17, rI cy 9 vM_st)]) (ws2 := (wX9_ahead cy aM qM vM_1 vM_r vM_st)) (kRunV (As := [.int (vM_st x1.toNatClampNeg)]) (rest := []) ⟨hx, hb, hml, hown, ht0⟩ (kX9_aheadOf l D cy _ aM qM vM_1 vM_r (vM_st x1.toNatClampNeg) r19 hc19 _ rfl) (cwV 1 ht0 (gV wd890 wd891 wd892 wd744 wd893) rfl rfl rfl (by decide +kernel) ⟨Nat.le_of_ble_eq_true rfl, Nat.le_of_ble_eq_true rfl⟩) hK hN hP hD [0, 1] rfl (by decide) 0 8 rfl rfl rfl hl.1 rfl (Nat.le_of_ble_eq_true rfl) dX9_ahead_19 ⟨Nat.zero_le _, Nat.zero_le _⟩) hP hD hS hA [0, 1] [2] rfl rfl (by decide) (by decide) [1, 2, 0] (by decide) rfl rfl (fun H locs hP hD hS => ?_)
    refine lv_bipush (v := 9) hx hb dX9_ahead_22 (by decide) ?_
    refine lv_irem hx hb dX9_ahead_24 (by decide) ?_
    refine lv_goto (tgt := 33) hx hb dX9_ahead_25 (by decide) ?_
    exact J33 (irm r19 (9 : Int32)) vM_1 H locs ls hP hD hS (lv_sub hl [] rfl) hok
