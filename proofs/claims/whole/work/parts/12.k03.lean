def wsX4_nextOf : List Cond := .code yX4_nextOf cX4_nextOf 2 (some .int) :: W0
abbrev wX4_nextOf (cy : Nat → ClassId) (aH : Nat) (qH : Nat → Nat) (vH : Nat → Int32) (vH_next : Nat → Int32) : va_W := [(aH, oX4 vH qH), (qH 10, rI cy 36 vH_next)]
set_option maxHeartbeats 4000000 in
set_option maxRecDepth 100000 in
theorem kX4_nextOf (l : Launch) (D : va_G) (cy : Nat → ClassId) (sz : Nat) (aH : Nat) (qH : Nat → Nat) (vH : Nat → Int32) (vH_next : Nat → Int32) (x1 : Int32) (zr : Int32) (hok : fX4_nextOf vH vH_next x1 = some zr) (A : Nat → Prop) (hAe : va_A (wX4_nextOf cy aH qH vH vH_next) sz = A) : Met l yX4_nextOf wsX4_nextOf ({ frames := 0, cells := 0, slots := 0, locals := 0 } : Room) (kPre D cy [.ref aH, .int x1] (wX4_nextOf cy aH qH vH vH_next) sz) (kQi D cy zr A (wX4_nextOf cy aH qH vH vH_next)) 0 0 A := by
  refine Met.ofW (cc := cX4_nextOf) (maxL := 2) (ret := (some .int)) (by decide) rfl ?_
  intro p e s m args below meth c s₁ B hml hv
  obtain ⟨rfl, hsz, hP, hK, hD0, hN⟩ := hv
  have hx := B.exec
  have hb := B.bytes
  have hr := B.returns
  have ht0 : ∀ w ∈ W0, w.before _ s = true := fun w h => atoms_spec (ws := wsX4_nextOf) B.pre w (List.mem_cons_of_mem _ h)
  have hown : s.vm.findClass RX4 = some m.cls := findClass_of_methodNamed B.named
  have hlocks := B.notSynchronized
  subst hsz
  have hD : va_D A (wX4_nextOf cy aH qH vH vH_next) := by rw [← hAe]; exact hD0.self
  have hA : ∀ q : Nat, s.heap.size ≤ q → A q := fun q h => by rw [← hAe]; exact Or.inr h
  have hS : va_S A s.heap s.heap [] := va_S.rf
  have hl := lv_entry ([.ref aH, .int x1]) (n := 2) (Nat.le_of_ble_eq_true rfl)
  rw [lg_entry_eq]
  generalize (lg_sl ([.ref aH, .int x1]) ++ List.replicate (2 - (lg_sl ([.ref aH, .int x1])).length) Slot.unset).toArray = ls at hl ⊢
  have hl : lv_has ls 2 [(0, .ref aH), (1, .int x1)] := hl
  generalize hQe : MQ below (kQi D cy zr A (wX4_nextOf cy aH qH vH vH_next)) ([.ref aH, .int x1] : List Value).toArray s 0 0 A = Q
  have J20 : ∀ (t0_20 : Int32), ∀ (H : Heap) (locs : List Loc) (ls : Array Slot), va_P D vwCl (wX4_nextOf cy aH qH vH vH_next) H → va_D A (wX4_nextOf cy aH qH vH vH_next) → va_S A s.heap H locs → lv_has ls 2 [] → fX4_nextOf_J20 t0_20 = some zr → W p l e ({ frames := 0, cells := 0, slots := 0, locals := 0 } : Room) s m ([.ref aH, .int x1] : List Value).toArray below meth c H locs 0 0 Q (F0 m 20 ls [.int t0_20]) := by
    intro t0_20 H locs ls hP hD hS hl hok
    unfold fX4_nextOf_J20 at hok
    cases hok
    subst hQe; exact W.iret hx hb hr (fun t ht hW => ⟨⟨_, (), rfl, rfl, by rw [ht]; exact hP, va_K.moved hW.alike hK, hD⟩, hS.F ht⟩) hS.2.2 dX4_nextOf_20
  have J19 : ∀ (H : Heap) (locs : List Loc) (ls : Array Slot), va_P D vwCl (wX4_nextOf cy aH qH vH vH_next) H → va_D A (wX4_nextOf cy aH qH vH vH_next) → va_S A s.heap H locs → lv_has ls 2 [] → fX4_nextOf_J19 = some zr → W p l e ({ frames := 0, cells := 0, slots := 0, locals := 0 } : Room) s m ([.ref aH, .int x1] : List Value).toArray below meth c H locs 0 0 Q (F0 m 19 ls []) := by
    intro  H locs ls hP hD hS hl hok
    unfold fX4_nextOf_J19 at hok
    refine lv_iconst (v := 0) hx hb dX4_nextOf_19 (by decide) ?_
    exact J20 (0 : Int32) H locs ls hP hD hS (lv_sub hl [] rfl) hok
  unfold fX4_nextOf at hok
  obtain ⟨H, hH⟩ : ∃ H, H = s.heap := ⟨_, rfl⟩
  obtain ⟨locs, hlc⟩ : ∃ x : List Loc, x = [] := ⟨_, rfl⟩
  have hP : va_P D vwCl (wX4_nextOf cy aH qH vH vH_next) H := by rw [hH]; exact hP
  have hS : va_S A s.heap H locs := by rw [hH, hlc]; exact hS
  rw [show W p l e _ s m _ below meth c s.heap [] = W p l e _ s m _ below meth c H locs from by rw [hH, hlc]]
  refine lv_iload_n hx hb dX4_nextOf_0 rfl (lv_at hl 1 rfl) ?_
  refine lv_if_lt (tgt := 19) hx hb dX4_nextOf_1 (by decide) (fun c1 => ?_) (fun c1 => ?_)
  · have hok := k_pos c1 hok
    exact J19  H locs ls hP hD hS (lv_sub hl [] rfl) hok
  · have hok := k_neg c1 hok
    refine lv_iload_n hx hb dX4_nextOf_4 rfl (lv_at hl 1 rfl) ?_
    refine lv_bipush (v := 36) hx hb dX4_nextOf_5 (by decide) ?_
    refine lv_icmp_ge (tgt := 19) hx hb dX4_nextOf_7 (by decide) (fun c7 => ?_) (fun c7 => ?_)
    · have hok := k_pos c7 hok
      exact J19  H locs ls hP hD hS (lv_sub hl [] rfl) hok
    · have hok := k_neg c7 hok
      refine lv_aload_n hx hb dX4_nextOf_10 rfl (lv_at hl 0 rfl) ?_
      refine va_get (D := D) (ci := 3) (v := .ref (qH 10)) (C := RX4) (T := TX4) (N := 20) hx hb ht0 niX4 hown hK hP 0 rfl rfl 10 (by decide) (ht0 _ wd127) (fun _ h9 => h9) rfl dX4_nextOf_11 ?_
      refine lv_iload_n hx hb dX4_nextOf_14 rfl (lv_at hl 1 rfl) ?_
      obtain ⟨g15, hok⟩ := gd_some hok
      refine va_iald hx hb hK hP 1 0 rfl rfl (okI_in g15) dX4_nextOf_15 ?_
      refine lv_goto (tgt := 20) hx hb dX4_nextOf_16 (by decide) ?_
      exact J20 (vH_next x1.toNatClampNeg) H locs ls hP hD hS (lv_sub hl [] rfl) hok
def wsX6_thingAt : List Cond := .code yX6_thingAt cX6_thingAt 2 (some .int) :: W0
abbrev wX6_thingAt (cy : Nat → ClassId) (aW : Nat) (qW : Nat → Nat) (aH : Nat) (fvW_4 : Nat) (vW : Nat → Int32) (vW_who : Nat → Int32) : va_W := [(aW, oX6 vW qW fvW_4), (qW 1, rI cy 36 vW_who)]
set_option maxHeartbeats 4000000 in
set_option maxRecDepth 100000 in
theorem kX6_thingAt (l : Launch) (D : va_G) (cy : Nat → ClassId) (sz : Nat) (aW : Nat) (qW : Nat → Nat) (aH : Nat) (vW : Nat → Int32) (vW_who : Nat → Int32) (x1 : Int32) (zr : Int32) (hok : fX6_thingAt vW vW_who x1 = some zr) (A : Nat → Prop) (hAe : va_A (wX6_thingAt cy aW qW aH aH vW vW_who) sz = A) : Met l yX6_thingAt wsX6_thingAt ({ frames := 0, cells := 0, slots := 0, locals := 0 } : Room) (kPre D cy [.ref aW, .int x1] (wX6_thingAt cy aW qW aH aH vW vW_who) sz) (kQi D cy zr A (wX6_thingAt cy aW qW aH aH vW vW_who)) 0 0 A := by
  refine Met.ofW (cc := cX6_thingAt) (maxL := 2) (ret := (some .int)) (by decide) rfl ?_
  intro p e s m args below meth c s₁ B hml hv
  obtain ⟨rfl, hsz, hP, hK, hD0, hN⟩ := hv
  have hx := B.exec
  have hb := B.bytes
  have hr := B.returns
  have ht0 : ∀ w ∈ W0, w.before _ s = true := fun w h => atoms_spec (ws := wsX6_thingAt) B.pre w (List.mem_cons_of_mem _ h)
  have hown : s.vm.findClass RX6 = some m.cls := findClass_of_methodNamed B.named
  have hlocks := B.notSynchronized
  subst hsz
  have hD : va_D A (wX6_thingAt cy aW qW aH aH vW vW_who) := by rw [← hAe]; exact hD0.self
  have hA : ∀ q : Nat, s.heap.size ≤ q → A q := fun q h => by rw [← hAe]; exact Or.inr h
  have hS : va_S A s.heap s.heap [] := va_S.rf
  have hl := lv_entry ([.ref aW, .int x1]) (n := 2) (Nat.le_of_ble_eq_true rfl)
  rw [lg_entry_eq]
  generalize (lg_sl ([.ref aW, .int x1]) ++ List.replicate (2 - (lg_sl ([.ref aW, .int x1])).length) Slot.unset).toArray = ls at hl ⊢
  have hl : lv_has ls 2 [(0, .ref aW), (1, .int x1)] := hl
  generalize hQe : MQ below (kQi D cy zr A (wX6_thingAt cy aW qW aH aH vW vW_who)) ([.ref aW, .int x1] : List Value).toArray s 0 0 A = Q
  have J20 : ∀ (t0_20 : Int32), ∀ (H : Heap) (locs : List Loc) (ls : Array Slot), va_P D vwCl (wX6_thingAt cy aW qW aH aH vW vW_who) H → va_D A (wX6_thingAt cy aW qW aH aH vW vW_who) → va_S A s.heap H locs → lv_has ls 2 [] → fX6_thingAt_J20 t0_20 = some zr → W p l e ({ frames := 0, cells := 0, slots := 0, locals := 0 } : Room) s m ([.ref aW, .int x1] : List Value).toArray below meth c H locs 0 0 Q (F0 m 20 ls [.int t0_20]) := by
    intro t0_20 H locs ls hP hD hS hl hok
    unfold fX6_thingAt_J20 at hok
    cases hok
    subst hQe; exact W.iret hx hb hr (fun t ht hW => ⟨⟨_, (), rfl, rfl, by rw [ht]; exact hP, va_K.moved hW.alike hK, hD⟩, hS.F ht⟩) hS.2.2 dX6_thingAt_20
  have J19 : ∀ (H : Heap) (locs : List Loc) (ls : Array Slot), va_P D vwCl (wX6_thingAt cy aW qW aH aH vW vW_who) H → va_D A (wX6_thingAt cy aW qW aH aH vW vW_who) → va_S A s.heap H locs → lv_has ls 2 [] → fX6_thingAt_J19 = some zr → W p l e ({ frames := 0, cells := 0, slots := 0, locals := 0 } : Room) s m ([.ref aW, .int x1] : List Value).toArray below meth c H locs 0 0 Q (F0 m 19 ls []) := by
    intro  H locs ls hP hD hS hl hok
    unfold fX6_thingAt_J19 at hok
    refine lv_iconst (v := -1) hx hb dX6_thingAt_19 (by decide) ?_
    exact J20 (-1 : Int32) H locs ls hP hD hS (lv_sub hl [] rfl) hok
  unfold fX6_thingAt at hok
  obtain ⟨H, hH⟩ : ∃ H, H = s.heap := ⟨_, rfl⟩
  obtain ⟨locs, hlc⟩ : ∃ x : List Loc, x = [] := ⟨_, rfl⟩
  have hP : va_P D vwCl (wX6_thingAt cy aW qW aH aH vW vW_who) H := by rw [hH]; exact hP
  have hS : va_S A s.heap H locs := by rw [hH, hlc]; exact hS
  rw [show W p l e _ s m _ below meth c s.heap [] = W p l e _ s m _ below meth c H locs from by rw [hH, hlc]]
  refine lv_iload_n hx hb dX6_thingAt_0 rfl (lv_at hl 1 rfl) ?_
  refine lv_if_lt (tgt := 19) hx hb dX6_thingAt_1 (by decide) (fun c1 => ?_) (fun c1 => ?_)
  · have hok := k_pos c1 hok
    exact J19  H locs ls hP hD hS (lv_sub hl [] rfl) hok
  · have hok := k_neg c1 hok
    refine lv_iload_n hx hb dX6_thingAt_4 rfl (lv_at hl 1 rfl) ?_
    refine lv_bipush (v := 36) hx hb dX6_thingAt_5 (by decide) ?_
    refine lv_icmp_ge (tgt := 19) hx hb dX6_thingAt_7 (by decide) (fun c7 => ?_) (fun c7 => ?_)
    · have hok := k_pos c7 hok
      exact J19  H locs ls hP hD hS (lv_sub hl [] rfl) hok
    · have hok := k_neg c7 hok
      refine lv_aload_n hx hb dX6_thingAt_10 rfl (lv_at hl 0 rfl) ?_
      refine va_get (D := D) (ci := 5) (v := .ref (qW 1)) (C := RX6) (T := TX6) (N := 13) hx hb ht0 niX6 hown hK hP 0 rfl rfl 1 (by decide) (ht0 _ wd92) (fun _ h9 => h9) rfl dX6_thingAt_11 ?_
      refine lv_iload_n hx hb dX6_thingAt_14 rfl (lv_at hl 1 rfl) ?_
      obtain ⟨g15, hok⟩ := gd_some hok
      refine va_iald hx hb hK hP 1 0 rfl rfl (okI_in g15) dX6_thingAt_15 ?_
      refine lv_goto (tgt := 20) hx hb dX6_thingAt_16 (by decide) ?_
      exact J20 (vW_who x1.toNatClampNeg) H locs ls hP hD hS (lv_sub hl [] rfl) hok
def wsX4_isTooLarge : List Cond := .code yX4_isTooLarge cX4_isTooLarge 3 (some .boolean) :: W0
abbrev wX4_isTooLarge (cy : Nat → ClassId) (aH : Nat) (qH : Nat → Nat) (vH : Nat → Int32) (vH_sizes : Nat → Int32) (vH_width : Nat → Int32) (vH_kinds : Nat → Int32) : va_W := [(aH, oX4 vH qH), (qH 15, rI cy 7 vH_sizes), (qH 11, rI cy 36 vH_width), (qH 14, rI cy 7 vH_kinds)]
set_option maxHeartbeats 4000000 in
set_option maxRecDepth 100000 in
theorem kX4_isTooLarge (l : Launch) (D : va_G) (cy : Nat → ClassId) (sz : Nat) (aH : Nat) (qH : Nat → Nat) (vH : Nat → Int32) (vH_sizes : Nat → Int32) (vH_width : Nat → Int32) (vH_kinds : Nat → Int32) (x1 : Int32) (x2 : Int32) (zr : Int32) (hok : fX4_isTooLarge vH vH_sizes vH_width vH_kinds x1 x2 = some zr) (A : Nat → Prop) (hAe : va_A (wX4_isTooLarge cy aH qH vH vH_sizes vH_width vH_kinds) sz = A) : Met l yX4_isTooLarge wsX4_isTooLarge ({ frames := 0, cells := 0, slots := 0, locals := 0 } : Room) (kPre D cy [.ref aH, .int x1, .int x2] (wX4_isTooLarge cy aH qH vH vH_sizes vH_width vH_kinds) sz) (kQi D cy zr A (wX4_isTooLarge cy aH qH vH vH_sizes vH_width vH_kinds)) 0 0 A := by
  refine Met.ofW (cc := cX4_isTooLarge) (maxL := 3) (ret := (some .boolean)) (by decide) rfl ?_
  intro p e s m args below meth c s₁ B hml hv
  obtain ⟨rfl, hsz, hP, hK, hD0, hN⟩ := hv
  have hx := B.exec
  have hb := B.bytes
  have hr := B.returns
  have ht0 : ∀ w ∈ W0, w.before _ s = true := fun w h => atoms_spec (ws := wsX4_isTooLarge) B.pre w (List.mem_cons_of_mem _ h)
  have hown : s.vm.findClass RX4 = some m.cls := findClass_of_methodNamed B.named
  have hlocks := B.notSynchronized
  subst hsz
  have hD : va_D A (wX4_isTooLarge cy aH qH vH vH_sizes vH_width vH_kinds) := by rw [← hAe]; exact hD0.self
  have hA : ∀ q : Nat, s.heap.size ≤ q → A q := fun q h => by rw [← hAe]; exact Or.inr h
  have hS : va_S A s.heap s.heap [] := va_S.rf
  have hl := lv_entry ([.ref aH, .int x1, .int x2]) (n := 3) (Nat.le_of_ble_eq_true rfl)
  rw [lg_entry_eq]
  generalize (lg_sl ([.ref aH, .int x1, .int x2]) ++ List.replicate (3 - (lg_sl ([.ref aH, .int x1, .int x2])).length) Slot.unset).toArray = ls at hl ⊢
  have hl : lv_has ls 3 [(0, .ref aH), (1, .int x1), (2, .int x2)] := hl
  generalize hQe : MQ below (kQi D cy zr A (wX4_isTooLarge cy aH qH vH vH_sizes vH_width vH_kinds)) ([.ref aH, .int x1, .int x2] : List Value).toArray s 0 0 A = Q
  have J52 : ∀ (t0_52 : Int32), ∀ (H : Heap) (locs : List Loc) (ls : Array Slot), va_P D vwCl (wX4_isTooLarge cy aH qH vH vH_sizes vH_width vH_kinds) H → va_D A (wX4_isTooLarge cy aH qH vH vH_sizes vH_width vH_kinds) → va_S A s.heap H locs → lv_has ls 3 [] → fX4_isTooLarge_J52 t0_52 = some zr → W p l e ({ frames := 0, cells := 0, slots := 0, locals := 0 } : Room) s m ([.ref aH, .int x1, .int x2] : List Value).toArray below meth c H locs 0 0 Q (F0 m 52 ls [.int t0_52]) := by
    intro t0_52 H locs ls hP hD hS hl hok
    unfold fX4_isTooLarge_J52 at hok
    obtain ⟨g52, hok⟩ := gd_some hok
    cases hok
    subst hQe; exact W.zret hx hb hr (isB_nar g52) (fun t ht hW => ⟨⟨_, (), rfl, rfl, by rw [ht]; exact hP, va_K.moved hW.alike hK, hD⟩, hS.F ht⟩) hS.2.2 dX4_isTooLarge_52
  have J51 : ∀ (H : Heap) (locs : List Loc) (ls : Array Slot), va_P D vwCl (wX4_isTooLarge cy aH qH vH vH_sizes vH_width vH_kinds) H → va_D A (wX4_isTooLarge cy aH qH vH vH_sizes vH_width vH_kinds) → va_S A s.heap H locs → lv_has ls 3 [] → fX4_isTooLarge_J51 = some zr → W p l e ({ frames := 0, cells := 0, slots := 0, locals := 0 } : Room) s m ([.ref aH, .int x1, .int x2] : List Value).toArray below meth c H locs 0 0 Q (F0 m 51 ls []) := by
    intro  H locs ls hP hD hS hl hok
    unfold fX4_isTooLarge_J51 at hok
    refine lv_iconst (v := 0) hx hb dX4_isTooLarge_51 (by decide) ?_
    exact J52 (0 : Int32) H locs ls hP hD hS (lv_sub hl [] rfl) hok
  have J20 : ∀ (H : Heap) (locs : List Loc) (ls : Array Slot), va_P D vwCl (wX4_isTooLarge cy aH qH vH vH_sizes vH_width vH_kinds) H → va_D A (wX4_isTooLarge cy aH qH vH vH_sizes vH_width vH_kinds) → va_S A s.heap H locs → lv_has ls 3 [] → fX4_isTooLarge_J20 = some zr → W p l e ({ frames := 0, cells := 0, slots := 0, locals := 0 } : Room) s m ([.ref aH, .int x1, .int x2] : List Value).toArray below meth c H locs 0 0 Q (F0 m 20 ls []) := by
    intro  H locs ls hP hD hS hl hok
    unfold fX4_isTooLarge_J20 at hok
    refine lv_iconst (v := 0) hx hb dX4_isTooLarge_20 (by decide) ?_
    cases hok
    subst hQe; exact W.zret hx hb hr rfl (fun t ht hW => ⟨⟨_, (), rfl, rfl, by rw [ht]; exact hP, va_K.moved hW.alike hK, hD⟩, hS.F ht⟩) hS.2.2 dX4_isTooLarge_21
  unfold fX4_isTooLarge at hok
  obtain ⟨H, hH⟩ : ∃ H, H = s.heap := ⟨_, rfl⟩
  obtain ⟨locs, hlc⟩ : ∃ x : List Loc, x = [] := ⟨_, rfl⟩
  have hP : va_P D vwCl (wX4_isTooLarge cy aH qH vH vH_sizes vH_width vH_kinds) H := by rw [hH]; exact hP
  have hS : va_S A s.heap H locs := by rw [hH, hlc]; exact hS
  rw [show W p l e _ s m _ below meth c s.heap [] = W p l e _ s m _ below meth c H locs from by rw [hH, hlc]]
  refine lv_iload_n hx hb dX4_isTooLarge_0 rfl (lv_at hl 1 rfl) ?_
  refine lv_if_lt (tgt := 20) hx hb dX4_isTooLarge_1 (by decide) (fun c1 => ?_) (fun c1 => ?_)
  · have hok := k_pos c1 hok
    exact J20  H locs ls hP hD hS (lv_sub hl [] rfl) hok
  · have hok := k_neg c1 hok
    refine lv_iload_n hx hb dX4_isTooLarge_4 rfl (lv_at hl 1 rfl) ?_
    refine lv_bipush (v := 7) hx hb dX4_isTooLarge_5 (by decide) ?_
    refine lv_icmp_ge (tgt := 20) hx hb dX4_isTooLarge_7 (by decide) (fun c7 => ?_) (fun c7 => ?_)
    · have hok := k_pos c7 hok
      exact J20  H locs ls hP hD hS (lv_sub hl [] rfl) hok
    · have hok := k_neg c7 hok
      refine lv_iload_n hx hb dX4_isTooLarge_10 rfl (lv_at hl 2 rfl) ?_
      refine lv_if_lt (tgt := 20) hx hb dX4_isTooLarge_11 (by decide) (fun c11 => ?_) (fun c11 => ?_)
      · have hok := k_pos c11 hok
        exact J20  H locs ls hP hD hS (lv_sub hl [] rfl) hok
      · have hok := k_neg c11 hok
        refine lv_iload_n hx hb dX4_isTooLarge_14 rfl (lv_at hl 2 rfl) ?_
        refine lv_bipush (v := 36) hx hb dX4_isTooLarge_15 (by decide) ?_
        refine lv_icmp_lt (tgt := 22) hx hb dX4_isTooLarge_17 (by decide) (fun c17 => ?_) (fun c17 => ?_)
        · have hok := k_pos c17 hok
          refine lv_aload_n hx hb dX4_isTooLarge_22 rfl (lv_at hl 0 rfl) ?_
          refine va_get (D := D) (ci := 3) (v := .ref (qH 15)) (C := RX4) (T := TX4) (N := 20) hx hb ht0 niX4 hown hK hP 0 rfl rfl 15 (by decide) (ht0 _ wd128) (fun _ h9 => h9) rfl dX4_isTooLarge_23 ?_
          refine lv_iload_n hx hb dX4_isTooLarge_26 rfl (lv_at hl 1 rfl) ?_
          obtain ⟨g27, hok⟩ := gd_some hok
          refine va_iald hx hb hK hP 1 0 rfl rfl (okI_in g27) dX4_isTooLarge_27 ?_
          refine lv_aload_n hx hb dX4_isTooLarge_28 rfl (lv_at hl 0 rfl) ?_
          refine va_get (D := D) (ci := 3) (v := .ref (qH 11)) (C := RX4) (T := TX4) (N := 20) hx hb ht0 niX4 hown hK hP 0 rfl rfl 11 (by decide) (ht0 _ wd129) (fun _ h9 => h9) rfl dX4_isTooLarge_29 ?_
          refine lv_iload_n hx hb dX4_isTooLarge_32 rfl (lv_at hl 2 rfl) ?_
          obtain ⟨g33, hok⟩ := gd_some hok
          refine va_iald hx hb hK hP 2 0 rfl rfl (okI_in g33) dX4_isTooLarge_33 ?_
          refine lv_icmp_le (tgt := 51) hx hb dX4_isTooLarge_34 (by decide) (fun c34 => ?_) (fun c34 => ?_)
          · have hok := k_pos c34 hok
            exact J51  H locs ls hP hD hS (lv_sub hl [] rfl) hok
          · have hok := k_neg c34 hok
            refine lv_aload_n hx hb dX4_isTooLarge_37 rfl (lv_at hl 0 rfl) ?_
            refine va_get (D := D) (ci := 3) (v := .ref (qH 14)) (C := RX4) (T := TX4) (N := 20) hx hb ht0 niX4 hown hK hP 0 rfl rfl 14 (by decide) (ht0 _ wd70) (fun _ h9 => h9) rfl dX4_isTooLarge_38 ?_
            refine lv_iload_n hx hb dX4_isTooLarge_41 rfl (lv_at hl 1 rfl) ?_
            obtain ⟨g42, hok⟩ := gd_some hok
            refine va_iald hx hb hK hP 3 0 rfl rfl (okI_in g42) dX4_isTooLarge_42 ?_
            refine lv_iconst (v := 3) hx hb dX4_isTooLarge_43 (by decide) ?_
            refine lv_icmp_eq (tgt := 51) hx hb dX4_isTooLarge_44 (by decide) (fun c44 => ?_) (fun c44 => ?_)
            · have hok := k_pos c44 hok
              exact J51  H locs ls hP hD hS (lv_sub hl [] rfl) hok
            · have hok := k_neg c44 hok
              refine lv_iconst (v := 1) hx hb dX4_isTooLarge_47 (by decide) ?_
              refine lv_goto (tgt := 52) hx hb dX4_isTooLarge_48 (by decide) ?_
              exact J52 (1 : Int32) H locs ls hP hD hS (lv_sub hl [] rfl) hok
        · have hok := k_neg c17 hok
          exact J20  H locs ls hP hD hS (lv_sub hl [] rfl) hok
def wsX6_withThoseBehind : List Cond := .code yX6_withThoseBehind cX6_withThoseBehind 7 (some .int) :: W0
abbrev wX6_withThoseBehind (cy : Nat → ClassId) (aW : Nat) (qW : Nat → Nat) (aH : Nat) (qH : Nat → Nat) (fvW_4 : Nat) (vW : Nat → Int32) (vH : Nat → Int32) (vW_inFront : Nat → Int32) : va_W := [(aW, oX6 vW qW fvW_4), (aH, oX4 vH qH), (qW 2, rI cy 7 vW_inFront)]
set_option maxHeartbeats 4000000 in
set_option maxRecDepth 100000 in
theorem kX6_withThoseBehind (l : Launch) (D : va_G) (cy : Nat → ClassId) (sz : Nat) (aW : Nat) (qW : Nat → Nat) (aH : Nat) (qH : Nat → Nat) (vW : Nat → Int32) (vH : Nat → Int32) (vW_inFront : Nat → Int32) (x1 : Int32) (zr : Int32) (hok : fX6_withThoseBehind vW vH vW_inFront x1 = some zr) (A : Nat → Prop) (hAe : va_A (wX6_withThoseBehind cy aW qW aH qH aH vW vH vW_inFront) sz = A) : Met l yX6_withThoseBehind wsX6_withThoseBehind ({ frames := 0, cells := 0, slots := 0, locals := 0 } : Room) (kPre D cy [.ref aW, .int x1] (wX6_withThoseBehind cy aW qW aH qH aH vW vH vW_inFront) sz) (kQi D cy zr A (wX6_withThoseBehind cy aW qW aH qH aH vW vH vW_inFront)) 0 0 A := by
  refine Met.ofW (cc := cX6_withThoseBehind) (maxL := 7) (ret := (some .int)) (by decide) rfl ?_
  intro p e s m args below meth c s₁ B hml hv
  obtain ⟨rfl, hsz, hP, hK, hD0, hN⟩ := hv
  have hx := B.exec
  have hb := B.bytes
  have hr := B.returns
  have ht0 : ∀ w ∈ W0, w.before _ s = true := fun w h => atoms_spec (ws := wsX6_withThoseBehind) B.pre w (List.mem_cons_of_mem _ h)
  have hown : s.vm.findClass RX6 = some m.cls := findClass_of_methodNamed B.named
  have hlocks := B.notSynchronized
  subst hsz
  have hD : va_D A (wX6_withThoseBehind cy aW qW aH qH aH vW vH vW_inFront) := by rw [← hAe]; exact hD0.self
  have hA : ∀ q : Nat, s.heap.size ≤ q → A q := fun q h => by rw [← hAe]; exact Or.inr h
  have hS : va_S A s.heap s.heap [] := va_S.rf
  have hl := lv_entry ([.ref aW, .int x1]) (n := 7) (Nat.le_of_ble_eq_true rfl)
  rw [lg_entry_eq]
  generalize (lg_sl ([.ref aW, .int x1]) ++ List.replicate (7 - (lg_sl ([.ref aW, .int x1])).length) Slot.unset).toArray = ls at hl ⊢
  have hl : lv_has ls 7 [(0, .ref aW), (1, .int x1)] := hl
  generalize hQe : MQ below (kQi D cy zr A (wX6_withThoseBehind cy aW qW aH qH aH vW vH vW_inFront)) ([.ref aW, .int x1] : List Value).toArray s 0 0 A = Q
  have J103 : ∀ (y2_103 : Int32), ∀ (H : Heap) (locs : List Loc) (ls : Array Slot), va_P D vwCl (wX6_withThoseBehind cy aW qW aH qH aH vW vH vW_inFront) H → va_D A (wX6_withThoseBehind cy aW qW aH qH aH vW vH vW_inFront) → va_S A s.heap H locs → lv_has ls 7 [(2, .int y2_103)] → fX6_withThoseBehind_J103 y2_103 = some zr → W p l e ({ frames := 0, cells := 0, slots := 0, locals := 0 } : Room) s m ([.ref aW, .int x1] : List Value).toArray below meth c H locs 0 0 Q (F0 m 103 ls []) := by
    intro y2_103 H locs ls hP hD hS hl hok
    unfold fX6_withThoseBehind_J103 at hok
    refine lv_iload_n hx hb dX6_withThoseBehind_103 rfl (lv_at hl 0 rfl) ?_
    cases hok
    subst hQe; exact W.iret hx hb hr (fun t ht hW => ⟨⟨_, (), rfl, rfl, by rw [ht]; exact hP, va_K.moved hW.alike hK, hD⟩, hS.F ht⟩) hS.2.2 dX6_withThoseBehind_104
  have L15 : ∀ (fuel : Nat) (y2_15 : Int32) (y3_15 : Int32) (y4_15 : Int32), ∀ (H : Heap) (locs : List Loc) (ls : Array Slot), va_P D vwCl (wX6_withThoseBehind cy aW qW aH qH aH vW vH vW_inFront) H → va_D A (wX6_withThoseBehind cy aW qW aH qH aH vW vH vW_inFront) → va_S A s.heap H locs → lv_has ls 7 [(0, .ref aW), (2, .int y2_15), (3, .int y3_15), (4, .int y4_15)] → lp (fX6_withThoseBehind_B15 vH vW_inFront) fuel (y2_15, y3_15, y4_15) = some zr → W p l e ({ frames := 0, cells := 0, slots := 0, locals := 0 } : Room) s m ([.ref aW, .int x1] : List Value).toArray below meth c H locs 0 0 Q (F0 m 15 ls []) := by
    intro fuel
    induction fuel with
    | zero => intro y2_15 y3_15 y4_15 H locs ls hP hD hS hl hok; exact (lp_0 hok).elim
    | succ fuel ih15 =>
      intro y2_15 y3_15 y4_15 H locs ls hP hD hS hl hok
      obtain ⟨y15, hok, hL15, hR15⟩ := lp_step hok
      have J97 : ∀ (y2_97 : Int32) (y3_97 : Int32), ∀ (H : Heap) (locs : List Loc) (ls : Array Slot), va_P D vwCl (wX6_withThoseBehind cy aW qW aH qH aH vW vH vW_inFront) H → va_D A (wX6_withThoseBehind cy aW qW aH qH aH vW vH vW_inFront) → va_S A s.heap H locs → lv_has ls 7 [(0, .ref aW), (2, .int y2_97), (3, .int y3_97), (4, .int y4_15)] → fX6_withThoseBehind_J97 y4_15 y2_97 y3_97 = some y15 → W p l e ({ frames := 0, cells := 0, slots := 0, locals := 0 } : Room) s m ([.ref aW, .int x1] : List Value).toArray below meth c H locs 0 0 Q (F0 m 97 ls []) := by
        intro y2_97 y3_97 H locs ls hP hD hS hl hok
        unfold fX6_withThoseBehind_J97 at hok
        refine lv_iinc (v := (y4_15 + 1)) (lv' := [(4, .int (y4_15 + 1)), (0, .ref aW), (2, .int y2_97), (3, .int y3_97)]) hx hb dX6_withThoseBehind_97 hl (k := 3) rfl (by first | rfl | decide) (by decide) rfl (fun ls hl => ?_)
        refine lv_goto (tgt := 15) hx hb dX6_withThoseBehind_100 (by decide) ?_
        exact ih15 y2_97 y3_97 (y4_15 + 1) H locs ls hP hD hS (lv_sub hl [1, 2, 3, 0] rfl) (hR15 _ (Option.some.inj hok).symm)
      have L31 : ∀ (fuel : Nat) (y2_31 : Int32) (y3_31 : Int32) (y5_31 : Int32), ∀ (H : Heap) (locs : List Loc) (ls : Array Slot), va_P D vwCl (wX6_withThoseBehind cy aW qW aH qH aH vW vH vW_inFront) H → va_D A (wX6_withThoseBehind cy aW qW aH qH aH vW vH vW_inFront) → va_S A s.heap H locs → lv_has ls 7 [(0, .ref aW), (2, .int y2_31), (3, .int y3_31), (4, .int y4_15), (5, .int y5_31)] → lp (fX6_withThoseBehind_B31 vH vW_inFront y4_15) fuel (y2_31, y3_31, y5_31) = some y15 → W p l e ({ frames := 0, cells := 0, slots := 0, locals := 0 } : Room) s m ([.ref aW, .int x1] : List Value).toArray below meth c H locs 0 0 Q (F0 m 31 ls []) := by
        intro fuel
        induction fuel with
        | zero => intro y2_31 y3_31 y5_31 H locs ls hP hD hS hl hok; exact (lp_0 hok).elim
        | succ fuel ih31 =>
          intro y2_31 y3_31 y5_31 H locs ls hP hD hS hl hok
          obtain ⟨y31, hok, hL31, hR31⟩ := lp_step hok
          have J91 : ∀ (y2_91 : Int32) (y3_91 : Int32), ∀ (H : Heap) (locs : List Loc) (ls : Array Slot), va_P D vwCl (wX6_withThoseBehind cy aW qW aH qH aH vW vH vW_inFront) H → va_D A (wX6_withThoseBehind cy aW qW aH qH aH vW vH vW_inFront) → va_S A s.heap H locs → lv_has ls 7 [(0, .ref aW), (2, .int y2_91), (3, .int y3_91), (4, .int y4_15), (5, .int y5_31)] → fX6_withThoseBehind_J91 y5_31 y2_91 y3_91 = some y31 → W p l e ({ frames := 0, cells := 0, slots := 0, locals := 0 } : Room) s m ([.ref aW, .int x1] : List Value).toArray below meth c H locs 0 0 Q (F0 m 91 ls []) := by
            intro y2_91 y3_91 H locs ls hP hD hS hl hok
            unfold fX6_withThoseBehind_J91 at hok
            refine lv_iinc (v := (y5_31 + 1)) (lv' := [(5, .int (y5_31 + 1)), (0, .ref aW), (2, .int y2_91), (3, .int y3_91), (4, .int y4_15)]) hx hb dX6_withThoseBehind_91 hl (k := 4) rfl (by first | rfl | decide) (by decide) rfl (fun ls hl => ?_)
            refine lv_goto (tgt := 31) hx hb dX6_withThoseBehind_94 (by decide) ?_
            exact ih31 y2_91 y3_91 (y5_31 + 1) H locs ls hP hD hS (lv_sub hl [1, 2, 3, 4, 0] rfl) (hR31 _ (Option.some.inj hok).symm)
          unfold fX6_withThoseBehind_B31 at hok
          try dsimp only at hok
          refine lv_iload hx hb dX6_withThoseBehind_31 (lv_at hl 4 rfl) ?_
          refine lv_aload_n hx hb dX6_withThoseBehind_33 rfl (lv_at hl 0 rfl) ?_
          refine va_get (D := D) (ci := 5) (v := .ref aH) (C := RX6) (T := TX6) (N := 13) hx hb ht0 niX6 hown hK hP 0 rfl rfl 4 (by decide) (ht0 _ wd101) (fun _ h9 => h9) rfl dX6_withThoseBehind_34 ?_
          refine va_get (D := D) (ci := 3) (v := .int (vH 5)) (C := RX4) (T := TX4) (N := 20) hx hb ht0 niX4 hown hK hP 1 rfl rfl 5 (by decide) (ht0 _ wd107) (fun _ h9 => h9) rfl dX6_withThoseBehind_37 ?_
          refine lv_icmp_ge (tgt := 97) hx hb dX6_withThoseBehind_40 (by decide) (fun c40 => ?_) (fun c40 => ?_)
          · have hok := k_pos c40 hok
            obtain ⟨e31, hok, he31⟩ := ex_some hok
            have hok := hok.trans (congrArg some (hL31 _ he31))
            exact J97 y2_31 y3_31 H locs ls hP hD hS (lv_sub hl [0, 1, 2, 3] rfl) hok
          · have hok := k_neg c40 hok
            refine lv_iload hx hb dX6_withThoseBehind_43 (lv_at hl 4 rfl) ?_
            refine lv_bipush (v := 7) hx hb dX6_withThoseBehind_45 (by decide) ?_
            refine lv_icmp_ge (tgt := 97) hx hb dX6_withThoseBehind_47 (by decide) (fun c47 => ?_) (fun c47 => ?_)
            · have hok := k_pos c47 hok
              obtain ⟨e31, hok, he31⟩ := ex_some hok
              have hok := hok.trans (congrArg some (hL31 _ he31))
              exact J97 y2_31 y3_31 H locs ls hP hD hS (lv_sub hl [0, 1, 2, 3] rfl) hok
            · have hok := k_neg c47 hok
              refine lv_aload_n hx hb dX6_withThoseBehind_50 rfl (lv_at hl 0 rfl) ?_
              refine va_get (D := D) (ci := 5) (v := .ref (qW 2)) (C := RX6) (T := TX6) (N := 13) hx hb ht0 niX6 hown hK hP 0 rfl rfl 2 (by decide) (ht0 _ wd130) (fun _ h9 => h9) rfl dX6_withThoseBehind_51 ?_
              refine lv_iload hx hb dX6_withThoseBehind_54 (lv_at hl 4 rfl) ?_
              obtain ⟨g56, hok⟩ := gd_some hok
              refine va_iald hx hb hK hP 2 0 rfl rfl (okI_in g56) dX6_withThoseBehind_56 ?_
              refine lv_istore (lv' := [(6, .int (vW_inFront y5_31.toNatClampNeg)), (0, .ref aW), (2, .int y2_31), (3, .int y3_31), (4, .int y4_15), (5, .int y5_31)]) hx hb dX6_withThoseBehind_57 hl (by decide) rfl (fun ls hl => ?_)
              refine lv_iload hx hb dX6_withThoseBehind_59 (lv_at hl 0 rfl) ?_
              refine lv_if_lt (tgt := 91) hx hb dX6_withThoseBehind_61 (by decide) (fun c61 => ?_) (fun c61 => ?_)
              · have hok := k_pos c61 hok
                exact J91 y2_31 y3_31 H locs ls hP hD hS (lv_sub hl [1, 2, 3, 4, 5] rfl) hok
              · have hok := k_neg c61 hok
                refine lv_iload_n hx hb dX6_withThoseBehind_64 rfl (lv_at hl 2 rfl) ?_
                refine lv_iload hx hb dX6_withThoseBehind_65 (lv_at hl 0 rfl) ?_
                refine lv_ishr hx hb dX6_withThoseBehind_67 ?_
                refine lv_iconst (v := 1) hx hb dX6_withThoseBehind_68 (by decide) ?_
                refine lv_iand hx hb dX6_withThoseBehind_69 ?_
                refine lv_if_eq (tgt := 91) hx hb dX6_withThoseBehind_70 (by decide) (fun c70 => ?_) (fun c70 => ?_)
                · have hok := k_pos c70 hok
                  exact J91 y2_31 y3_31 H locs ls hP hD hS (lv_sub hl [1, 2, 3, 4, 5] rfl) hok
                · have hok := k_neg c70 hok
                  refine lv_iload_n hx hb dX6_withThoseBehind_73 rfl (lv_at hl 2 rfl) ?_
                  refine lv_iload hx hb dX6_withThoseBehind_74 (lv_at hl 5 rfl) ?_
                  refine lv_ishr hx hb dX6_withThoseBehind_76 ?_
                  refine lv_iconst (v := 1) hx hb dX6_withThoseBehind_77 (by decide) ?_
                  refine lv_iand hx hb dX6_withThoseBehind_78 ?_
                  refine lv_if_ne (tgt := 91) hx hb dX6_withThoseBehind_79 (by decide) (fun c79 => ?_) (fun c79 => ?_)
                  · have hok := k_neg c79 hok
                    exact J91 y2_31 y3_31 H locs ls hP hD hS (lv_sub hl [1, 2, 3, 4, 5] rfl) hok
                  · have hok := k_pos c79 hok
                    refine lv_iload_n hx hb dX6_withThoseBehind_82 rfl (lv_at hl 2 rfl) ?_
                    refine lv_iconst (v := 1) hx hb dX6_withThoseBehind_83 (by decide) ?_
                    refine lv_iload hx hb dX6_withThoseBehind_84 (lv_at hl 5 rfl) ?_
                    refine lv_ishl hx hb dX6_withThoseBehind_86 ?_
                    refine lv_ior hx hb dX6_withThoseBehind_87 ?_
                    refine lv_istore_n (lv' := [(2, .int (y2_31 ||| (isl (1 : Int32) y5_31))), (6, .int (vW_inFront y5_31.toNatClampNeg)), (0, .ref aW), (3, .int y3_31), (4, .int y4_15), (5, .int y5_31)]) hx hb dX6_withThoseBehind_88 rfl hl (by decide) rfl (fun ls hl => ?_)
                    refine lv_iconst (v := 1) hx hb dX6_withThoseBehind_89 (by decide) ?_
                    refine lv_istore_n (lv' := [(3, .int 1), (2, .int (y2_31 ||| (isl (1 : Int32) y5_31))), (6, .int (vW_inFront y5_31.toNatClampNeg)), (0, .ref aW), (4, .int y4_15), (5, .int y5_31)]) hx hb dX6_withThoseBehind_90 rfl hl (by decide) rfl (fun ls hl => ?_)
                    exact J91 (y2_31 ||| (isl (1 : Int32) y5_31)) (1 : Int32) H locs ls hP hD hS (lv_sub hl [3, 1, 0, 4, 5] rfl) hok
      unfold fX6_withThoseBehind_B15 at hok
      try dsimp only at hok
      refine lv_iload hx hb dX6_withThoseBehind_15 (lv_at hl 3 rfl) ?_
      refine lv_bipush (v := 7) hx hb dX6_withThoseBehind_17 (by decide) ?_
      refine lv_icmp_ge (tgt := 103) hx hb dX6_withThoseBehind_19 (by decide) (fun c19 => ?_) (fun c19 => ?_)
      · have hok := k_pos c19 hok
        obtain ⟨e15, hok, he15⟩ := ex_some hok
        have hok := hok.trans (congrArg some (hL15 _ he15))
        exact J103 y2_15 H locs ls hP hD hS (lv_sub hl [1] rfl) hok
      · have hok := k_neg c19 hok
        refine lv_iload_n hx hb dX6_withThoseBehind_22 rfl (lv_at hl 2 rfl) ?_
        refine lv_if_eq (tgt := 103) hx hb dX6_withThoseBehind_23 (by decide) (fun c23 => ?_) (fun c23 => ?_)
        · have hok := k_pos c23 hok
          obtain ⟨e15, hok, he15⟩ := ex_some hok
          have hok := hok.trans (congrArg some (hL15 _ he15))
          exact J103 y2_15 H locs ls hP hD hS (lv_sub hl [1] rfl) hok
        · have hok := k_neg c23 hok
          refine lv_iconst (v := 0) hx hb dX6_withThoseBehind_26 (by decide) ?_
          refine lv_istore_n (lv' := [(3, .int 0), (0, .ref aW), (2, .int y2_15), (4, .int y4_15)]) hx hb dX6_withThoseBehind_27 rfl hl (by decide) rfl (fun ls hl => ?_)
          refine lv_iconst (v := 0) hx hb dX6_withThoseBehind_28 (by decide) ?_
          refine lv_istore (lv' := [(5, .int 0), (3, .int 0), (0, .ref aW), (2, .int y2_15), (4, .int y4_15)]) hx hb dX6_withThoseBehind_29 hl (by decide) rfl (fun ls hl => ?_)
          exact L31 5000 y2_15 (0 : Int32) (0 : Int32) H locs ls hP hD hS (lv_sub hl [2, 3, 1, 4, 0] rfl) hok
  have J11 : ∀ (t0_11 : Int32), ∀ (H : Heap) (locs : List Loc) (ls : Array Slot), va_P D vwCl (wX6_withThoseBehind cy aW qW aH qH aH vW vH vW_inFront) H → va_D A (wX6_withThoseBehind cy aW qW aH qH aH vW vH vW_inFront) → va_S A s.heap H locs → lv_has ls 7 [(0, .ref aW), (2, .int x1)] → fX6_withThoseBehind_J11 vH vW_inFront x1 t0_11 = some zr → W p l e ({ frames := 0, cells := 0, slots := 0, locals := 0 } : Room) s m ([.ref aW, .int x1] : List Value).toArray below meth c H locs 0 0 Q (F0 m 11 ls [.int t0_11]) := by
    intro t0_11 H locs ls hP hD hS hl hok
    unfold fX6_withThoseBehind_J11 at hok
    refine lv_istore_n (lv' := [(3, .int t0_11), (0, .ref aW), (2, .int x1)]) hx hb dX6_withThoseBehind_11 rfl hl (by decide) rfl (fun ls hl => ?_)
    refine lv_iconst (v := 0) hx hb dX6_withThoseBehind_12 (by decide) ?_
    refine lv_istore (lv' := [(4, .int 0), (3, .int t0_11), (0, .ref aW), (2, .int x1)]) hx hb dX6_withThoseBehind_13 hl (by decide) rfl (fun ls hl => ?_)
    exact L15 5000 x1 t0_11 (0 : Int32) H locs ls hP hD hS (lv_sub hl [2, 3, 1, 0] rfl) hok
  unfold fX6_withThoseBehind at hok
  obtain ⟨H, hH⟩ : ∃ H, H = s.heap := ⟨_, rfl⟩
  obtain ⟨locs, hlc⟩ : ∃ x : List Loc, x = [] := ⟨_, rfl⟩
  have hP : va_P D vwCl (wX6_withThoseBehind cy aW qW aH qH aH vW vH vW_inFront) H := by rw [hH]; exact hP
  have hS : va_S A s.heap H locs := by rw [hH, hlc]; exact hS
  rw [show W p l e _ s m _ below meth c s.heap [] = W p l e _ s m _ below meth c H locs from by rw [hH, hlc]]
  refine lv_iload_n hx hb dX6_withThoseBehind_0 rfl (lv_at hl 1 rfl) ?_
  refine lv_istore_n (lv' := [(2, .int x1), (0, .ref aW), (1, .int x1)]) hx hb dX6_withThoseBehind_1 rfl hl (by decide) rfl (fun ls hl => ?_)
  refine lv_iload_n hx hb dX6_withThoseBehind_2 rfl (lv_at hl 0 rfl) ?_
  refine lv_if_eq (tgt := 10) hx hb dX6_withThoseBehind_3 (by decide) (fun c3 => ?_) (fun c3 => ?_)
  · have hok := k_pos c3 hok
    refine lv_iconst (v := 0) hx hb dX6_withThoseBehind_10 (by decide) ?_
    exact J11 (0 : Int32) H locs ls hP hD hS (lv_sub hl [1, 0] rfl) hok
  · have hok := k_neg c3 hok
    refine lv_iconst (v := 1) hx hb dX6_withThoseBehind_6 (by decide) ?_
    refine lv_goto (tgt := 11) hx hb dX6_withThoseBehind_7 (by decide) ?_
    exact J11 (1 : Int32) H locs ls hP hD hS (lv_sub hl [1, 0] rfl) hok
def wsX6_decide : List Cond := .code yX6_decide cX6_decide 6 none :: W0
abbrev wX6_decide (cy : Nat → ClassId) (aW : Nat) (qW : Nat → Nat) (aH : Nat) (qH : Nat → Nat) (fvW_4 : Nat) (vW : Nat → Int32) (vH : Nat → Int32) (vW_cells : Nat → Int32) (vH_next : Nat → Int32) (vW_who : Nat → Int32) (vW_inFront : Nat → Int32) (vH_sizes : Nat → Int32) (vH_width : Nat → Int32) (vH_kinds : Nat → Int32) : va_W := [(aW, oX6 vW qW fvW_4), (aH, oX4 vH qH), (qW 0, rI cy 7 vW_cells), (qH 10, rI cy 36 vH_next), (qW 1, rI cy 36 vW_who), (qW 2, rI cy 7 vW_inFront), (qH 15, rI cy 7 vH_sizes), (qH 11, rI cy 36 vH_width), (qH 14, rI cy 7 vH_kinds)]
set_option maxHeartbeats 4000000 in
set_option maxRecDepth 100000 in
theorem kX6_decide (l : Launch) (D : va_G) (cy : Nat → ClassId) (sz : Nat) (aW : Nat) (qW : Nat → Nat) (aH : Nat) (qH : Nat → Nat) (vW : Nat → Int32) (vH : Nat → Int32) (vW_cells : Nat → Int32) (vH_next : Nat → Int32) (vW_who : Nat → Int32) (vW_inFront : Nat → Int32) (vH_sizes : Nat → Int32) (vH_width : Nat → Int32) (vH_kinds : Nat → Int32) (x1 : Int32) (z_vW : Nat → Int32) (z_vW_inFront : Nat → Int32) (hok : fX6_decide vW vH vW_cells vH_next vW_who vW_inFront vH_sizes vH_width vH_kinds x1 = some (z_vW, z_vW_inFront)) (A : Nat → Prop) (hAe : va_A (wX6_decide cy aW qW aH qH aH vW vH vW_cells vH_next vW_who vW_inFront vH_sizes vH_width vH_kinds) sz = A) : Met l yX6_decide wsX6_decide ({ frames := 1, cells := 0, slots := 0, locals := 26 } : Room) (kPre D cy [.ref aW, .int x1] (wX6_decide cy aW qW aH qH aH vW vH vW_cells vH_next vW_who vW_inFront vH_sizes vH_width vH_kinds) sz) (kQv D cy A (wX6_decide cy aW qW aH qH aH z_vW vH vW_cells vH_next vW_who z_vW_inFront vH_sizes vH_width vH_kinds)) 0 0 A := by
  refine Met.ofW (cc := cX6_decide) (maxL := 6) (ret := none) (by decide) rfl ?_
  intro p e s m args below meth c s₁ B hml hv
  obtain ⟨rfl, hsz, hP, hK, hD0, hN⟩ := hv
  have hx := B.exec
  have hb := B.bytes
  have hr := B.returns
  have ht0 : ∀ w ∈ W0, w.before _ s = true := fun w h => atoms_spec (ws := wsX6_decide) B.pre w (List.mem_cons_of_mem _ h)
  have hown : s.vm.findClass RX6 = some m.cls := findClass_of_methodNamed B.named
  have hlocks := B.notSynchronized
  subst hsz
  have hD : va_D A (wX6_decide cy aW qW aH qH aH vW vH vW_cells vH_next vW_who vW_inFront vH_sizes vH_width vH_kinds) := by rw [← hAe]; exact hD0.self
  have hA : ∀ q : Nat, s.heap.size ≤ q → A q := fun q h => by rw [← hAe]; exact Or.inr h
  have hS : va_S A s.heap s.heap [] := va_S.rf
  have hl := lv_entry ([.ref aW, .int x1]) (n := 6) (Nat.le_of_ble_eq_true rfl)
  rw [lg_entry_eq]
  generalize (lg_sl ([.ref aW, .int x1]) ++ List.replicate (6 - (lg_sl ([.ref aW, .int x1])).length) Slot.unset).toArray = ls at hl ⊢
  have hl : lv_has ls 6 [(0, .ref aW), (1, .int x1)] := hl
  generalize hQe : MQ below (kQv D cy A (wX6_decide cy aW qW aH qH aH z_vW vH vW_cells vH_next vW_who z_vW_inFront vH_sizes vH_width vH_kinds)) ([.ref aW, .int x1] : List Value).toArray s 0 0 A = Q
  have J144 : ∀ (y3_144 : Int32) (vW_inFront_144 : Nat → Int32), ∀ (H : Heap) (locs : List Loc) (ls : Array Slot), va_P D vwCl (wX6_decide cy aW qW aH qH aH vW vH vW_cells vH_next vW_who vW_inFront_144 vH_sizes vH_width vH_kinds) H → va_D A (wX6_decide cy aW qW aH qH aH vW vH vW_cells vH_next vW_who vW_inFront_144 vH_sizes vH_width vH_kinds) → va_S A s.heap H locs → lv_has ls 6 [(0, .ref aW), (3, .int y3_144)] → fX6_decide_J144 vW vH y3_144 vW_inFront_144 = some (z_vW, z_vW_inFront) → W p l e ({ frames := 1, cells := 0, slots := 0, locals := 26 } : Room) s m ([.ref aW, .int x1] : List Value).toArray below meth c H locs 0 0 Q (F0 m 144 ls []) := by
    intro y3_144 vW_inFront_144 H locs ls hP hD hS hl hok
    unfold fX6_decide_J144 at hok
    refine lv_aload_n hx hb dX6_decide_144 rfl (lv_at hl 0 rfl) ?_
    refine lv_iload_n hx hb dX6_decide_145 rfl (lv_at hl 1 rfl) ?_
    refine va_put (D := D) (ci := 5) (v := .int y3_144) (ty := .int) (C := RX6) (T := TX6) (N := 13) hx hb ht0 niX6 tyX6 tyX6_ok nmX6 hown hK hP hD hS 0 rfl rfl 11 (by decide) (ht0 _ wd131) (fun _ h9 => h9) rfl (by decide +kernel) rfl rfl (Nat.le_of_ble_eq_true rfl) dX6_decide_146 (fun H locs hP hD hS => ?_)
    have hP : va_P D vwCl (wX6_decide cy aW qW aH qH aH (upd vW 11 y3_144) vH vW_cells vH_next vW_who vW_inFront_144 vH_sizes vH_width vH_kinds) H := hP
    have hD : va_D A (wX6_decide cy aW qW aH qH aH (upd vW 11 y3_144) vH vW_cells vH_next vW_who vW_inFront_144 vH_sizes vH_width vH_kinds) := hD
    refine lv_aload_n hx hb dX6_decide_149 rfl (lv_at hl 0 rfl) ?_
    refine lv_iconst (v := 1) hx hb dX6_decide_150 (by decide) ?_
    refine lv_aload_n hx hb dX6_decide_151 rfl (lv_at hl 0 rfl) ?_
    refine va_get (D := D) (ci := 5) (v := .ref aH) (C := RX6) (T := TX6) (N := 13) hx hb ht0 niX6 hown hK hP 0 rfl rfl 4 (by decide) (ht0 _ wd101) (fun _ h9 => h9) rfl dX6_decide_152 ?_
    refine va_get (D := D) (ci := 3) (v := .int (vH 5)) (C := RX4) (T := TX4) (N := 20) hx hb ht0 niX4 hown hK hP 1 rfl rfl 5 (by decide) (ht0 _ wd107) (fun _ h9 => h9) rfl dX6_decide_155 ?_
    refine lv_ishl hx hb dX6_decide_158 ?_
    refine lv_iconst (v := 1) hx hb dX6_decide_159 (by decide) ?_
    refine lv_isub hx hb dX6_decide_160 ?_
    refine lv_aload_n hx hb dX6_decide_161 rfl (lv_at hl 0 rfl) ?_
    refine lv_iload_n hx hb dX6_decide_162 rfl (lv_at hl 1 rfl) ?_
    obtain ⟨r163, hc163, hok⟩ := k_bind hok
    refine kCi (wc := (wX6_withThoseBehind cy aW qW aH qH aH (upd vW 11 y3_144) vH vW_inFront_144)) (wc2 := (wX6_withThoseBehind cy aW qW aH qH aH (upd vW 11 y3_144) vH vW_inFront_144)) (wr := [(qW 0, rI cy 7 vW_cells), (qH 10, rI cy 36 vH_next), (qW 1, rI cy 36 vW_who), (qH 15, rI cy 7 vH_sizes), (qH 11, rI cy 36 vH_width), (qH 14, rI cy 7 vH_kinds)]) (ws2 := (wX6_decide cy aW qW aH qH aH (upd vW 11 y3_144) vH vW_cells vH_next vW_who vW_inFront_144 vH_sizes vH_width vH_kinds)) (kRunV (As := [.int y3_144]) (rest := [.int ((isl (1 : Int32) (vH 5)) - (1 : Int32)), .ref aW]) ⟨hx, hb, hml, hown, ht0⟩ (kX6_withThoseBehind l D cy _ aW qW aH qH (upd vW 11 y3_144) vH vW_inFront_144 y3_144 r163 hc163 _ rfl) (cwV 1 ht0 (gV wd132 wd133 wd134 wd114 wd135) rfl rfl rfl (by decide +kernel) ⟨Nat.le_of_ble_eq_true rfl, Nat.le_of_ble_eq_true rfl⟩) hK hN hP hD [0, 1, 5] rfl (by decide) 0 5 rfl rfl rfl hl.1 rfl (Nat.le_of_ble_eq_true rfl) dX6_decide_163 ⟨Nat.zero_le _, Nat.zero_le _⟩) hP hD hS hA [0, 1, 5] [2, 3, 4, 6, 7, 8] rfl rfl (by decide) (by decide) [6, 7, 0, 1, 2, 8, 3, 4, 5] (by decide) rfl rfl (fun H locs hP hD hS => ?_)
    refine lv_iconst (v := -1) hx hb dX6_decide_166 (by decide) ?_
    refine lv_ixor hx hb dX6_decide_167 ?_
    refine lv_iand hx hb dX6_decide_168 ?_
    refine va_put (D := D) (ci := 5) (v := .int (((isl (1 : Int32) (vH 5)) - (1 : Int32)) &&& (r163 ^^^ (-1 : Int32)))) (ty := .int) (C := RX6) (T := TX6) (N := 13) hx hb ht0 niX6 tyX6 tyX6_ok nmX6 hown hK hP hD hS 0 rfl rfl 12 (by decide) (ht0 _ wd136) (fun _ h9 => h9) rfl (by decide +kernel) rfl rfl (Nat.le_of_ble_eq_true rfl) dX6_decide_169 (fun H locs hP hD hS => ?_)
    have hP : va_P D vwCl (wX6_decide cy aW qW aH qH aH (upd (upd vW 11 y3_144) 12 (((isl (1 : Int32) (vH 5)) - (1 : Int32)) &&& (r163 ^^^ (-1 : Int32)))) vH vW_cells vH_next vW_who vW_inFront_144 vH_sizes vH_width vH_kinds) H := hP
    have hD : va_D A (wX6_decide cy aW qW aH qH aH (upd (upd vW 11 y3_144) 12 (((isl (1 : Int32) (vH 5)) - (1 : Int32)) &&& (r163 ^^^ (-1 : Int32)))) vH vW_cells vH_next vW_who vW_inFront_144 vH_sizes vH_width vH_kinds) := hD
    cases hok
    subst hQe; exact W.vret hx hb hr (fun t ht hW => ⟨⟨(), rfl, trivial, by rw [ht]; exact hP, va_K.moved hW.alike hK, hD⟩, hS.F ht⟩) hS.2.2 dX6_decide_172
  have J115 : ∀ (y3_115 : Int32) (vW_inFront_115 : Nat → Int32), ∀ (H : Heap) (locs : List Loc) (ls : Array Slot), va_P D vwCl (wX6_decide cy aW qW aH qH aH vW vH vW_cells vH_next vW_who vW_inFront_115 vH_sizes vH_width vH_kinds) H → va_D A (wX6_decide cy aW qW aH qH aH vW vH vW_cells vH_next vW_who vW_inFront_115 vH_sizes vH_width vH_kinds) → va_S A s.heap H locs → lv_has ls 6 [(0, .ref aW), (2, .int ((vW 5) + (1 : Int32))), (3, .int y3_115)] → fX6_decide_J115 vW vH y3_115 vW_inFront_115 = some (z_vW, z_vW_inFront) → W p l e ({ frames := 1, cells := 0, slots := 0, locals := 26 } : Room) s m ([.ref aW, .int x1] : List Value).toArray below meth c H locs 0 0 Q (F0 m 115 ls []) := by
    intro y3_115 vW_inFront_115 H locs ls hP hD hS hl hok
    unfold fX6_decide_J115 at hok
    refine lv_aload_n hx hb dX6_decide_115 rfl (lv_at hl 0 rfl) ?_
    refine va_get (D := D) (ci := 5) (v := .ref aH) (C := RX6) (T := TX6) (N := 13) hx hb ht0 niX6 hown hK hP 0 rfl rfl 4 (by decide) (ht0 _ wd101) (fun _ h9 => h9) rfl dX6_decide_116 ?_
    refine va_get (D := D) (ci := 3) (v := .int (vH 0)) (C := RX4) (T := TX4) (N := 20) hx hb ht0 niX4 hown hK hP 1 rfl rfl 0 (by decide) (ht0 _ wd137) (fun _ h9 => h9) rfl dX6_decide_119 ?_
    refine lv_if_le (tgt := 144) hx hb dX6_decide_122 (by decide) (fun c122 => ?_) (fun c122 => ?_)
    · have hok := k_pos c122 hok
      exact J144 y3_115 vW_inFront_115 H locs ls hP hD hS (lv_sub hl [0, 2] rfl) hok
    · have hok := k_neg c122 hok
      refine lv_iload_n hx hb dX6_decide_125 rfl (lv_at hl 1 rfl) ?_
      refine lv_aload_n hx hb dX6_decide_126 rfl (lv_at hl 0 rfl) ?_
      refine va_get (D := D) (ci := 5) (v := .ref aH) (C := RX6) (T := TX6) (N := 13) hx hb ht0 niX6 hown hK hP 0 rfl rfl 4 (by decide) (ht0 _ wd101) (fun _ h9 => h9) rfl dX6_decide_127 ?_
      refine va_get (D := D) (ci := 3) (v := .int (vH 0)) (C := RX4) (T := TX4) (N := 20) hx hb ht0 niX4 hown hK hP 1 rfl rfl 0 (by decide) (ht0 _ wd137) (fun _ h9 => h9) rfl dX6_decide_130 ?_
      obtain ⟨g133, hok⟩ := gd_some hok
      refine lv_irem hx hb dX6_decide_133 (nzI_ne g133) ?_
      refine lv_if_eq (tgt := 144) hx hb dX6_decide_134 (by decide) (fun c134 => ?_) (fun c134 => ?_)
      · have hok := k_pos c134 hok
        exact J144 y3_115 vW_inFront_115 H locs ls hP hD hS (lv_sub hl [0, 2] rfl) hok
      · have hok := k_neg c134 hok
        refine lv_iload_n hx hb dX6_decide_137 rfl (lv_at hl 2 rfl) ?_
        refine lv_aload_n hx hb dX6_decide_138 rfl (lv_at hl 0 rfl) ?_
        refine va_get (D := D) (ci := 5) (v := .int (vW 8)) (C := RX6) (T := TX6) (N := 13) hx hb ht0 niX6 hown hK hP 0 rfl rfl 8 (by decide) (ht0 _ wd99) (fun _ h9 => h9) rfl dX6_decide_139 ?_
        refine lv_ior hx hb dX6_decide_142 ?_
        refine lv_istore_n (lv' := [(3, .int (y3_115 ||| (vW 8))), (0, .ref aW), (2, .int ((vW 5) + (1 : Int32)))]) hx hb dX6_decide_143 rfl hl (by decide) rfl (fun ls hl => ?_)
        exact J144 (y3_115 ||| (vW 8)) vW_inFront_115 H locs ls hP hD hS (lv_sub hl [1, 0] rfl) hok
  have J101 : ∀ (y3_101 : Int32) (vW_inFront_101 : Nat → Int32), ∀ (H : Heap) (locs : List Loc) (ls : Array Slot), va_P D vwCl (wX6_decide cy aW qW aH qH aH vW vH vW_cells vH_next vW_who vW_inFront_101 vH_sizes vH_width vH_kinds) H → va_D A (wX6_decide cy aW qW aH qH aH vW vH vW_cells vH_next vW_who vW_inFront_101 vH_sizes vH_width vH_kinds) → va_S A s.heap H locs → lv_has ls 6 [(0, .ref aW), (2, .int ((vW 5) + (1 : Int32))), (3, .int y3_101)] → fX6_decide_J101 vW vH y3_101 vW_inFront_101 = some (z_vW, z_vW_inFront) → W p l e ({ frames := 1, cells := 0, slots := 0, locals := 26 } : Room) s m ([.ref aW, .int x1] : List Value).toArray below meth c H locs 0 0 Q (F0 m 101 ls []) := by
    intro y3_101 vW_inFront_101 H locs ls hP hD hS hl hok
    unfold fX6_decide_J101 at hok
    refine lv_iload_n hx hb dX6_decide_101 rfl (lv_at hl 1 rfl) ?_
    refine lv_bipush (v := 9) hx hb dX6_decide_102 (by decide) ?_
    refine lv_irem hx hb dX6_decide_104 (by decide) ?_
    refine lv_if_eq (tgt := 115) hx hb dX6_decide_105 (by decide) (fun c105 => ?_) (fun c105 => ?_)
    · have hok := k_pos c105 hok
      exact J115 y3_101 vW_inFront_101 H locs ls hP hD hS (lv_sub hl [0, 1, 2] rfl) hok
    · have hok := k_neg c105 hok
      refine lv_iload_n hx hb dX6_decide_108 rfl (lv_at hl 2 rfl) ?_
      refine lv_aload_n hx hb dX6_decide_109 rfl (lv_at hl 0 rfl) ?_
      refine va_get (D := D) (ci := 5) (v := .int (vW 7)) (C := RX6) (T := TX6) (N := 13) hx hb ht0 niX6 hown hK hP 0 rfl rfl 7 (by decide) (ht0 _ wd100) (fun _ h9 => h9) rfl dX6_decide_110 ?_
      refine lv_ior hx hb dX6_decide_113 ?_
      refine lv_istore_n (lv' := [(3, .int (y3_101 ||| (vW 7))), (0, .ref aW), (2, .int ((vW 5) + (1 : Int32)))]) hx hb dX6_decide_114 rfl hl (by decide) rfl (fun ls hl => ?_)
      exact J115 (y3_101 ||| (vW 7)) vW_inFront_101 H locs ls hP hD hS (lv_sub hl [1, 2, 0] rfl) hok
  have L17 : ∀ (fuel : Nat) (y3_17 : Int32) (y4_17 : Int32) (vW_inFront_17 : Nat → Int32), ∀ (H : Heap) (locs : List Loc) (ls : Array Slot), va_P D vwCl (wX6_decide cy aW qW aH qH aH vW vH vW_cells vH_next vW_who vW_inFront_17 vH_sizes vH_width vH_kinds) H → va_D A (wX6_decide cy aW qW aH qH aH vW vH vW_cells vH_next vW_who vW_inFront_17 vH_sizes vH_width vH_kinds) → va_S A s.heap H locs → lv_has ls 6 [(0, .ref aW), (2, .int ((vW 5) + (1 : Int32))), (3, .int y3_17), (4, .int y4_17)] → lp (fX6_decide_B17 vW vH vW_cells vH_next vW_who vH_sizes vH_width vH_kinds) fuel (y3_17, y4_17, vW_inFront_17) = some (z_vW, z_vW_inFront) → W p l e ({ frames := 1, cells := 0, slots := 0, locals := 26 } : Room) s m ([.ref aW, .int x1] : List Value).toArray below meth c H locs 0 0 Q (F0 m 17 ls []) := by
    intro fuel
    induction fuel with
    | zero => intro y3_17 y4_17 vW_inFront_17 H locs ls hP hD hS hl hok; exact (lp_0 hok).elim
    | succ fuel ih17 =>
      intro y3_17 y4_17 vW_inFront_17 H locs ls hP hD hS hl hok
      obtain ⟨y17, hok, hL17, hR17⟩ := lp_step hok
      have J95 : ∀ (y3_95 : Int32) (vW_inFront_95 : Nat → Int32), ∀ (H : Heap) (locs : List Loc) (ls : Array Slot), va_P D vwCl (wX6_decide cy aW qW aH qH aH vW vH vW_cells vH_next vW_who vW_inFront_95 vH_sizes vH_width vH_kinds) H → va_D A (wX6_decide cy aW qW aH qH aH vW vH vW_cells vH_next vW_who vW_inFront_95 vH_sizes vH_width vH_kinds) → va_S A s.heap H locs → lv_has ls 6 [(0, .ref aW), (2, .int ((vW 5) + (1 : Int32))), (3, .int y3_95), (4, .int y4_17)] → fX6_decide_J95 y4_17 y3_95 vW_inFront_95 = some y17 → W p l e ({ frames := 1, cells := 0, slots := 0, locals := 26 } : Room) s m ([.ref aW, .int x1] : List Value).toArray below meth c H locs 0 0 Q (F0 m 95 ls []) := by
        intro y3_95 vW_inFront_95 H locs ls hP hD hS hl hok
        unfold fX6_decide_J95 at hok
        refine lv_iinc (v := (y4_17 + 1)) (lv' := [(4, .int (y4_17 + 1)), (0, .ref aW), (2, .int ((vW 5) + (1 : Int32))), (3, .int y3_95)]) hx hb dX6_decide_95 hl (k := 3) rfl (by first | rfl | decide) (by decide) rfl (fun ls hl => ?_)
        refine lv_goto (tgt := 17) hx hb dX6_decide_98 (by decide) ?_
        exact ih17 y3_95 (y4_17 + 1) vW_inFront_95 H locs ls hP hD hS (lv_sub hl [1, 2, 3, 0] rfl) (hR17 _ (Option.some.inj hok).symm)
      unfold fX6_decide_B17 at hok
      try dsimp only at hok
      refine lv_iload hx hb dX6_decide_17 (lv_at hl 3 rfl) ?_
      refine lv_aload_n hx hb dX6_decide_19 rfl (lv_at hl 0 rfl) ?_
      refine va_get (D := D) (ci := 5) (v := .ref aH) (C := RX6) (T := TX6) (N := 13) hx hb ht0 niX6 hown hK hP 0 rfl rfl 4 (by decide) (ht0 _ wd101) (fun _ h9 => h9) rfl dX6_decide_20 ?_
      refine va_get (D := D) (ci := 3) (v := .int (vH 5)) (C := RX4) (T := TX4) (N := 20) hx hb ht0 niX4 hown hK hP 1 rfl rfl 5 (by decide) (ht0 _ wd107) (fun _ h9 => h9) rfl dX6_decide_23 ?_
      refine lv_icmp_ge (tgt := 101) hx hb dX6_decide_26 (by decide) (fun c26 => ?_) (fun c26 => ?_)
      · have hok := k_pos c26 hok
        obtain ⟨e17, hok, he17⟩ := ex_some hok
        have hok := hok.trans (congrArg some (hL17 _ he17))
        exact J101 y3_17 vW_inFront_17 H locs ls hP hD hS (lv_sub hl [0, 1, 2] rfl) hok
      · have hok := k_neg c26 hok
        refine lv_iload hx hb dX6_decide_29 (lv_at hl 3 rfl) ?_
        refine lv_bipush (v := 7) hx hb dX6_decide_31 (by decide) ?_
        refine lv_icmp_ge (tgt := 101) hx hb dX6_decide_33 (by decide) (fun c33 => ?_) (fun c33 => ?_)
        · have hok := k_pos c33 hok
          obtain ⟨e17, hok, he17⟩ := ex_some hok
          have hok := hok.trans (congrArg some (hL17 _ he17))
          exact J101 y3_17 vW_inFront_17 H locs ls hP hD hS (lv_sub hl [0, 1, 2] rfl) hok
        · have hok := k_neg c33 hok
          refine lv_aload_n hx hb dX6_decide_36 rfl (lv_at hl 0 rfl) ?_
          refine va_get (D := D) (ci := 5) (v := .ref aH) (C := RX6) (T := TX6) (N := 13) hx hb ht0 niX6 hown hK hP 0 rfl rfl 4 (by decide) (ht0 _ wd101) (fun _ h9 => h9) rfl dX6_decide_37 ?_
          refine lv_aload_n hx hb dX6_decide_40 rfl (lv_at hl 0 rfl) ?_
          refine va_get (D := D) (ci := 5) (v := .ref (qW 0)) (C := RX6) (T := TX6) (N := 13) hx hb ht0 niX6 hown hK hP 0 rfl rfl 0 (by decide) (ht0 _ wd110) (fun _ h9 => h9) rfl dX6_decide_41 ?_
          refine lv_iload hx hb dX6_decide_44 (lv_at hl 3 rfl) ?_
          obtain ⟨g46, hok⟩ := gd_some hok
          refine va_iald hx hb hK hP 2 0 rfl rfl (okI_in g46) dX6_decide_46 ?_
          obtain ⟨r47, hc47, hok⟩ := k_bind hok
          refine kCi (wc := (wX4_nextOf cy aH qH vH vH_next)) (wc2 := (wX4_nextOf cy aH qH vH vH_next)) (wr := [(aW, oX6 vW qW aH), (qW 0, rI cy 7 vW_cells), (qW 1, rI cy 36 vW_who), (qW 2, rI cy 7 vW_inFront_17), (qH 15, rI cy 7 vH_sizes), (qH 11, rI cy 36 vH_width), (qH 14, rI cy 7 vH_kinds)]) (ws2 := (wX6_decide cy aW qW aH qH aH vW vH vW_cells vH_next vW_who vW_inFront_17 vH_sizes vH_width vH_kinds)) (kRunV (As := [.int (vW_cells y4_17.toNatClampNeg)]) (rest := []) ⟨hx, hb, hml, hown, ht0⟩ (kX4_nextOf l D cy _ aH qH vH vH_next (vW_cells y4_17.toNatClampNeg) r47 hc47 _ rfl) (cwV 1 ht0 (gV wd138 wd139 wd140 wd9 wd141) rfl rfl rfl (by decide +kernel) ⟨Nat.le_of_ble_eq_true rfl, Nat.le_of_ble_eq_true rfl⟩) hK hN hP hD [1, 3] rfl (by decide) 1 3 rfl rfl rfl hl.1 rfl (Nat.le_of_ble_eq_true rfl) dX6_decide_47 ⟨Nat.zero_le _, Nat.zero_le _⟩) hP hD hS hA [1, 3] [0, 2, 4, 5, 6, 7, 8] rfl rfl (by decide) (by decide) [0, 7, 1, 8, 2, 3, 4, 5, 6] (by decide) rfl rfl (fun H locs hP hD hS => ?_)
          refine lv_istore (lv' := [(5, .int r47), (0, .ref aW), (2, .int ((vW 5) + (1 : Int32))), (3, .int y3_17), (4, .int y4_17)]) hx hb dX6_decide_50 hl (by decide) rfl (fun ls hl => ?_)
          refine lv_aload_n hx hb dX6_decide_52 rfl (lv_at hl 1 rfl) ?_
          refine va_get (D := D) (ci := 5) (v := .ref (qW 2)) (C := RX6) (T := TX6) (N := 13) hx hb ht0 niX6 hown hK hP 0 rfl rfl 2 (by decide) (ht0 _ wd130) (fun _ h9 => h9) rfl dX6_decide_53 ?_
          refine lv_iload hx hb dX6_decide_56 (lv_at hl 4 rfl) ?_
          refine lv_aload_n hx hb dX6_decide_58 rfl (lv_at hl 1 rfl) ?_
          refine lv_iload hx hb dX6_decide_59 (lv_at hl 0 rfl) ?_
          obtain ⟨r61, hc61, hok⟩ := k_bind hok
          refine kCi (wc := (wX6_thingAt cy aW qW aH aH vW vW_who)) (wc2 := (wX6_thingAt cy aW qW aH aH vW vW_who)) (wr := [(aH, oX4 vH qH), (qW 0, rI cy 7 vW_cells), (qH 10, rI cy 36 vH_next), (qW 2, rI cy 7 vW_inFront_17), (qH 15, rI cy 7 vH_sizes), (qH 11, rI cy 36 vH_width), (qH 14, rI cy 7 vH_kinds)]) (ws2 := (wX6_decide cy aW qW aH qH aH vW vH vW_cells vH_next vW_who vW_inFront_17 vH_sizes vH_width vH_kinds)) (kRunV (As := [.int r47]) (rest := [.int y4_17, .ref (qW 2)]) ⟨hx, hb, hml, hown, ht0⟩ (kX6_thingAt l D cy _ aW qW aH vW vW_who r47 r61 hc61 _ rfl) (cwV 1 ht0 (gV wd142 wd143 wd144 wd114 wd145) rfl rfl rfl (by decide +kernel) ⟨Nat.le_of_ble_eq_true rfl, Nat.le_of_ble_eq_true rfl⟩) hK hN hP hD [0, 4] rfl (by decide) 0 5 rfl rfl rfl hl.1 rfl (Nat.le_of_ble_eq_true rfl) dX6_decide_61 ⟨Nat.zero_le _, Nat.zero_le _⟩) hP hD hS hA [0, 4] [1, 2, 3, 5, 6, 7, 8] rfl rfl (by decide) (by decide) [7, 0, 1, 2, 8, 3, 4, 5, 6] (by decide) rfl rfl (fun H locs hP hD hS => ?_)
          obtain ⟨g64, hok⟩ := gd_some hok
          refine va_iast hx hb hK hP hD hS 5 0 rfl rfl (okI_in g64) dX6_decide_64 (fun H locs hP hD hS => ?_)
          have hP : va_P D vwCl (wX6_decide cy aW qW aH qH aH vW vH vW_cells vH_next vW_who (upd vW_inFront_17 y4_17.toNatClampNeg r61) vH_sizes vH_width vH_kinds) H := hP
          have hD : va_D A (wX6_decide cy aW qW aH qH aH vW vH vW_cells vH_next vW_who (upd vW_inFront_17 y4_17.toNatClampNeg r61) vH_sizes vH_width vH_kinds) := hD
          refine lv_iload hx hb dX6_decide_65 (lv_at hl 0 rfl) ?_
          refine lv_aload_n hx hb dX6_decide_67 rfl (lv_at hl 1 rfl) ?_
          refine va_get (D := D) (ci := 5) (v := .int (vW 9)) (C := RX6) (T := TX6) (N := 13) hx hb ht0 niX6 hown hK hP 0 rfl rfl 9 (by decide) (ht0 _ wd125) (fun _ h9 => h9) rfl dX6_decide_68 ?_
          refine lv_icmp_eq (tgt := 95) hx hb dX6_decide_71 (by decide) (fun c71 => ?_) (fun c71 => ?_)
          · have hok := k_pos c71 hok
            exact J95 y3_17 (upd vW_inFront_17 y4_17.toNatClampNeg r61) H locs ls hP hD hS (lv_sub hl [1, 2, 3, 4] rfl) hok
          · have hok := k_neg c71 hok
            refine lv_aload_n hx hb dX6_decide_74 rfl (lv_at hl 1 rfl) ?_
            refine va_get (D := D) (ci := 5) (v := .ref aH) (C := RX6) (T := TX6) (N := 13) hx hb ht0 niX6 hown hK hP 0 rfl rfl 4 (by decide) (ht0 _ wd101) (fun _ h9 => h9) rfl dX6_decide_75 ?_
            refine lv_iload hx hb dX6_decide_78 (lv_at hl 4 rfl) ?_
            refine lv_iload hx hb dX6_decide_80 (lv_at hl 0 rfl) ?_
            obtain ⟨r82, hc82, hok⟩ := k_bind hok
            refine kCi (wc := (wX4_isTooLarge cy aH qH vH vH_sizes vH_width vH_kinds)) (wc2 := (wX4_isTooLarge cy aH qH vH vH_sizes vH_width vH_kinds)) (wr := [(aW, oX6 vW qW aH), (qW 0, rI cy 7 vW_cells), (qH 10, rI cy 36 vH_next), (qW 1, rI cy 36 vW_who), (qW 2, rI cy 7 (upd vW_inFront_17 y4_17.toNatClampNeg r61))]) (ws2 := (wX6_decide cy aW qW aH qH aH vW vH vW_cells vH_next vW_who (upd vW_inFront_17 y4_17.toNatClampNeg r61) vH_sizes vH_width vH_kinds)) (kRunV (As := [.int y4_17, .int r47]) (rest := []) ⟨hx, hb, hml, hown, ht0⟩ (kX4_isTooLarge l D cy _ aH qH vH vH_sizes vH_width vH_kinds y4_17 r47 r82 hc82 _ rfl) (cwV 2 ht0 (gV wd146 wd147 wd148 wd9 wd149) rfl rfl rfl (by decide +kernel) ⟨Nat.le_of_ble_eq_true rfl, Nat.le_of_ble_eq_true rfl⟩) hK hN hP hD [1, 6, 7, 8] rfl (by decide) 1 3 rfl rfl rfl hl.1 rfl (Nat.le_of_ble_eq_true rfl) dX6_decide_82 ⟨Nat.zero_le _, Nat.zero_le _⟩) hP hD hS hA [1, 6, 7, 8] [0, 2, 3, 4, 5] rfl rfl (by decide) (by decide) [0, 5, 1, 2, 3, 4, 6, 7, 8] (by decide) rfl rfl (fun H locs hP hD hS => ?_)
            refine lv_if_eq (tgt := 95) hx hb dX6_decide_85 (by decide) (fun c85 => ?_) (fun c85 => ?_)
            · have hok := k_pos c85 hok
              exact J95 y3_17 (upd vW_inFront_17 y4_17.toNatClampNeg r61) H locs ls hP hD hS (lv_sub hl [1, 2, 3, 4] rfl) hok
            · have hok := k_neg c85 hok
              refine lv_iload_n hx hb dX6_decide_88 rfl (lv_at hl 3 rfl) ?_
              refine lv_iconst (v := 1) hx hb dX6_decide_89 (by decide) ?_
              refine lv_iload hx hb dX6_decide_90 (lv_at hl 4 rfl) ?_
              refine lv_ishl hx hb dX6_decide_92 ?_
              refine lv_ior hx hb dX6_decide_93 ?_
              refine lv_istore_n (lv' := [(3, .int (y3_17 ||| (isl (1 : Int32) y4_17))), (5, .int r47), (0, .ref aW), (2, .int ((vW 5) + (1 : Int32))), (4, .int y4_17)]) hx hb dX6_decide_94 rfl hl (by decide) rfl (fun ls hl => ?_)
              exact J95 (y3_17 ||| (isl (1 : Int32) y4_17)) (upd vW_inFront_17 y4_17.toNatClampNeg r61) H locs ls hP hD hS (lv_sub hl [2, 3, 0, 4] rfl) hok
  unfold fX6_decide at hok
  obtain ⟨H, hH⟩ : ∃ H, H = s.heap := ⟨_, rfl⟩
  obtain ⟨locs, hlc⟩ : ∃ x : List Loc, x = [] := ⟨_, rfl⟩
  have hP : va_P D vwCl (wX6_decide cy aW qW aH qH aH vW vH vW_cells vH_next vW_who vW_inFront vH_sizes vH_width vH_kinds) H := by rw [hH]; exact hP
  have hS : va_S A s.heap H locs := by rw [hH, hlc]; exact hS
  rw [show W p l e _ s m _ below meth c s.heap [] = W p l e _ s m _ below meth c H locs from by rw [hH, hlc]]
  refine lv_aload_n hx hb dX6_decide_0 rfl (lv_at hl 0 rfl) ?_
  refine va_get (D := D) (ci := 5) (v := .int (vW 5)) (C := RX6) (T := TX6) (N := 13) hx hb ht0 niX6 hown hK hP 0 rfl rfl 5 (by decide) (ht0 _ wd120) (fun _ h9 => h9) rfl dX6_decide_1 ?_
  refine lv_iconst (v := 1) hx hb dX6_decide_4 (by decide) ?_
  refine lv_iadd hx hb dX6_decide_5 ?_
  refine lv_istore_n (lv' := [(2, .int ((vW 5) + (1 : Int32))), (0, .ref aW), (1, .int x1)]) hx hb dX6_decide_6 rfl hl (by decide) rfl (fun ls hl => ?_)
  refine lv_aload_n hx hb dX6_decide_7 rfl (lv_at hl 1 rfl) ?_
  refine va_get (D := D) (ci := 5) (v := .int (vW 6)) (C := RX6) (T := TX6) (N := 13) hx hb ht0 niX6 hown hK hP 0 rfl rfl 6 (by decide) (ht0 _ wd106) (fun _ h9 => h9) rfl dX6_decide_8 ?_
  refine lv_iload_n hx hb dX6_decide_11 rfl (lv_at hl 2 rfl) ?_
  refine lv_ior hx hb dX6_decide_12 ?_
  refine lv_istore_n (lv' := [(3, .int ((vW 6) ||| x1)), (2, .int ((vW 5) + (1 : Int32))), (0, .ref aW), (1, .int x1)]) hx hb dX6_decide_13 rfl hl (by decide) rfl (fun ls hl => ?_)
  refine lv_iconst (v := 0) hx hb dX6_decide_14 (by decide) ?_
  refine lv_istore (lv' := [(4, .int 0), (3, .int ((vW 6) ||| x1)), (2, .int ((vW 5) + (1 : Int32))), (0, .ref aW), (1, .int x1)]) hx hb dX6_decide_15 hl (by decide) rfl (fun ls hl => ?_)
  exact L17 5000 ((vW 6) ||| x1) (0 : Int32) vW_inFront H locs ls hP hD hS (lv_sub hl [3, 2, 1, 0] rfl) hok
def wsX6_pass : List Cond := .code yX6_pass cX6_pass 3 none :: W0
abbrev wX6_pass (cy : Nat → ClassId) (aW : Nat) (qW : Nat → Nat) (aH : Nat) (qH : Nat → Nat) (fvW_4 : Nat) (vW : Nat → Int32) (vH : Nat → Int32) (vW_cells : Nat → Int32) (vH_next : Nat → Int32) (vW_who : Nat → Int32) (vW_inFront : Nat → Int32) (vH_sizes : Nat → Int32) (vH_width : Nat → Int32) (vH_kinds : Nat → Int32) : va_W := [(aW, oX6 vW qW fvW_4), (aH, oX4 vH qH), (qW 0, rI cy 7 vW_cells), (qH 10, rI cy 36 vH_next), (qW 1, rI cy 36 vW_who), (qW 2, rI cy 7 vW_inFront), (qH 15, rI cy 7 vH_sizes), (qH 11, rI cy 36 vH_width), (qH 14, rI cy 7 vH_kinds)]
set_option maxHeartbeats 4000000 in
set_option maxRecDepth 100000 in
theorem kX6_pass (l : Launch) (D : va_G) (cy : Nat → ClassId) (sz : Nat) (aW : Nat) (qW : Nat → Nat) (aH : Nat) (qH : Nat → Nat) (vW : Nat → Int32) (vH : Nat → Int32) (vW_cells : Nat → Int32) (vH_next : Nat → Int32) (vW_who : Nat → Int32) (vW_inFront : Nat → Int32) (vH_sizes : Nat → Int32) (vH_width : Nat → Int32) (vH_kinds : Nat → Int32) (x1 : Int32) (z_vW : Nat → Int32) (z_vW_cells : Nat → Int32) (z_vW_who : Nat → Int32) (z_vW_inFront : Nat → Int32) (hok : fX6_pass vW vH vW_cells vH_next vW_who vW_inFront vH_sizes vH_width vH_kinds x1 = some (z_vW, z_vW_cells, z_vW_who, z_vW_inFront)) (A : Nat → Prop) (hAe : va_A (wX6_pass cy aW qW aH qH aH vW vH vW_cells vH_next vW_who vW_inFront vH_sizes vH_width vH_kinds) sz = A) : Met l yX6_pass wsX6_pass ({ frames := 2, cells := 0, slots := 0, locals := 51 } : Room) (kPre D cy [.ref aW, .int x1] (wX6_pass cy aW qW aH qH aH vW vH vW_cells vH_next vW_who vW_inFront vH_sizes vH_width vH_kinds) sz) (kQv D cy A (wX6_pass cy aW qW aH qH aH z_vW vH z_vW_cells vH_next z_vW_who z_vW_inFront vH_sizes vH_width vH_kinds)) 0 0 A := by
  refine Met.ofW (cc := cX6_pass) (maxL := 3) (ret := none) (by decide) rfl ?_
  intro p e s m args below meth c s₁ B hml hv
  obtain ⟨rfl, hsz, hP, hK, hD0, hN⟩ := hv
  have hx := B.exec
  have hb := B.bytes
  have hr := B.returns
  have ht0 : ∀ w ∈ W0, w.before _ s = true := fun w h => atoms_spec (ws := wsX6_pass) B.pre w (List.mem_cons_of_mem _ h)
  have hown : s.vm.findClass RX6 = some m.cls := findClass_of_methodNamed B.named
  have hlocks := B.notSynchronized
  subst hsz
  have hD : va_D A (wX6_pass cy aW qW aH qH aH vW vH vW_cells vH_next vW_who vW_inFront vH_sizes vH_width vH_kinds) := by rw [← hAe]; exact hD0.self
  have hA : ∀ q : Nat, s.heap.size ≤ q → A q := fun q h => by rw [← hAe]; exact Or.inr h
  have hS : va_S A s.heap s.heap [] := va_S.rf
  have hl := lv_entry ([.ref aW, .int x1]) (n := 3) (Nat.le_of_ble_eq_true rfl)
  rw [lg_entry_eq]
  generalize (lg_sl ([.ref aW, .int x1]) ++ List.replicate (3 - (lg_sl ([.ref aW, .int x1])).length) Slot.unset).toArray = ls at hl ⊢
  have hl : lv_has ls 3 [(0, .ref aW), (1, .int x1)] := hl
  generalize hQe : MQ below (kQv D cy A (wX6_pass cy aW qW aH qH aH z_vW vH z_vW_cells vH_next z_vW_who z_vW_inFront vH_sizes vH_width vH_kinds)) ([.ref aW, .int x1] : List Value).toArray s 0 0 A = Q
  have J128 : ∀ (vW_cells_128 : Nat → Int32) (vW_inFront_128 : Nat → Int32) (vW_who_128 : Nat → Int32) (vW_128 : Nat → Int32), ∀ (H : Heap) (locs : List Loc) (ls : Array Slot), va_P D vwCl (wX6_pass cy aW qW aH qH aH vW_128 vH vW_cells_128 vH_next vW_who_128 vW_inFront_128 vH_sizes vH_width vH_kinds) H → va_D A (wX6_pass cy aW qW aH qH aH vW_128 vH vW_cells_128 vH_next vW_who_128 vW_inFront_128 vH_sizes vH_width vH_kinds) → va_S A s.heap H locs → lv_has ls 3 [] → fX6_pass_J128 vW_cells_128 vW_inFront_128 vW_who_128 vW_128 = some (z_vW, z_vW_cells, z_vW_who, z_vW_inFront) → W p l e ({ frames := 2, cells := 0, slots := 0, locals := 51 } : Room) s m ([.ref aW, .int x1] : List Value).toArray below meth c H locs 0 0 Q (F0 m 128 ls []) := by
    intro vW_cells_128 vW_inFront_128 vW_who_128 vW_128 H locs ls hP hD hS hl hok
    unfold fX6_pass_J128 at hok
    cases hok
    subst hQe; exact W.vret hx hb hr (fun t ht hW => ⟨⟨(), rfl, trivial, by rw [ht]; exact hP, va_K.moved hW.alike hK, hD⟩, hS.F ht⟩) hS.2.2 dX6_pass_128
  have L64 : ∀ (fuel : Nat) (y2_64 : Int32) (vW_cells_64 : Nat → Int32) (vW_inFront_64 : Nat → Int32) (vW_who_64 : Nat → Int32) (vW_64 : Nat → Int32), ∀ (H : Heap) (locs : List Loc) (ls : Array Slot), va_P D vwCl (wX6_pass cy aW qW aH qH aH vW_64 vH vW_cells_64 vH_next vW_who_64 vW_inFront_64 vH_sizes vH_width vH_kinds) H → va_D A (wX6_pass cy aW qW aH qH aH vW_64 vH vW_cells_64 vH_next vW_who_64 vW_inFront_64 vH_sizes vH_width vH_kinds) → va_S A s.heap H locs → lv_has ls 3 [(0, .ref aW), (2, .int y2_64)] → lp (fX6_pass_B64 vH vH_next) fuel (y2_64, vW_cells_64, vW_inFront_64, vW_who_64, vW_64) = some (z_vW, z_vW_cells, z_vW_who, z_vW_inFront) → W p l e ({ frames := 2, cells := 0, slots := 0, locals := 51 } : Room) s m ([.ref aW, .int x1] : List Value).toArray below meth c H locs 0 0 Q (F0 m 64 ls []) := by
    intro fuel
    induction fuel with
    | zero => intro y2_64 vW_cells_64 vW_inFront_64 vW_who_64 vW_64 H locs ls hP hD hS hl hok; exact (lp_0 hok).elim
    | succ fuel ih64 =>
      intro y2_64 vW_cells_64 vW_inFront_64 vW_who_64 vW_64 H locs ls hP hD hS hl hok
      obtain ⟨y64, hok, hL64, hR64⟩ := lp_step hok
      have J122 : ∀ (vW_cells_122 : Nat → Int32) (vW_who_122 : Nat → Int32), ∀ (H : Heap) (locs : List Loc) (ls : Array Slot), va_P D vwCl (wX6_pass cy aW qW aH qH aH vW_64 vH vW_cells_122 vH_next vW_who_122 vW_inFront_64 vH_sizes vH_width vH_kinds) H → va_D A (wX6_pass cy aW qW aH qH aH vW_64 vH vW_cells_122 vH_next vW_who_122 vW_inFront_64 vH_sizes vH_width vH_kinds) → va_S A s.heap H locs → lv_has ls 3 [(0, .ref aW), (2, .int y2_64)] → fX6_pass_J122 y2_64 vW_inFront_64 vW_64 vW_cells_122 vW_who_122 = some y64 → W p l e ({ frames := 2, cells := 0, slots := 0, locals := 51 } : Room) s m ([.ref aW, .int x1] : List Value).toArray below meth c H locs 0 0 Q (F0 m 122 ls []) := by
        intro vW_cells_122 vW_who_122 H locs ls hP hD hS hl hok
        unfold fX6_pass_J122 at hok
        refine lv_iinc (v := (y2_64 + 1)) (lv' := [(2, .int (y2_64 + 1)), (0, .ref aW)]) hx hb dX6_pass_122 hl (k := 1) rfl (by first | rfl | decide) (by decide) rfl (fun ls hl => ?_)
        refine lv_goto (tgt := 64) hx hb dX6_pass_125 (by decide) ?_
        exact ih64 (y2_64 + 1) vW_cells_122 vW_inFront_64 vW_who_122 vW_64 H locs ls hP hD hS (lv_sub hl [1, 0] rfl) (hR64 _ (Option.some.inj hok).symm)
      unfold fX6_pass_B64 at hok
      try dsimp only at hok
      refine lv_iload_n hx hb dX6_pass_64 rfl (lv_at hl 1 rfl) ?_
      refine lv_aload_n hx hb dX6_pass_65 rfl (lv_at hl 0 rfl) ?_
      refine va_get (D := D) (ci := 5) (v := .ref aH) (C := RX6) (T := TX6) (N := 13) hx hb ht0 niX6 hown hK hP 0 rfl rfl 4 (by decide) (ht0 _ wd101) (fun _ h9 => h9) rfl dX6_pass_66 ?_
      refine va_get (D := D) (ci := 3) (v := .int (vH 5)) (C := RX4) (T := TX4) (N := 20) hx hb ht0 niX4 hown hK hP 1 rfl rfl 5 (by decide) (ht0 _ wd107) (fun _ h9 => h9) rfl dX6_pass_69 ?_
      refine lv_icmp_ge (tgt := 128) hx hb dX6_pass_72 (by decide) (fun c72 => ?_) (fun c72 => ?_)
      · have hok := k_pos c72 hok
        obtain ⟨e64, hok, he64⟩ := ex_some hok
        have hok := hok.trans (congrArg some (hL64 _ he64))
        exact J128 vW_cells_64 vW_inFront_64 vW_who_64 vW_64 H locs ls hP hD hS (lv_sub hl [] rfl) hok
      · have hok := k_neg c72 hok
        refine lv_iload_n hx hb dX6_pass_75 rfl (lv_at hl 1 rfl) ?_
        refine lv_bipush (v := 7) hx hb dX6_pass_76 (by decide) ?_
        refine lv_icmp_ge (tgt := 128) hx hb dX6_pass_78 (by decide) (fun c78 => ?_) (fun c78 => ?_)
        · have hok := k_pos c78 hok
          obtain ⟨e64, hok, he64⟩ := ex_some hok
          have hok := hok.trans (congrArg some (hL64 _ he64))
          exact J128 vW_cells_64 vW_inFront_64 vW_who_64 vW_64 H locs ls hP hD hS (lv_sub hl [] rfl) hok
        · have hok := k_neg c78 hok
          refine lv_aload_n hx hb dX6_pass_81 rfl (lv_at hl 0 rfl) ?_
          refine va_get (D := D) (ci := 5) (v := .int (vW_64 12)) (C := RX6) (T := TX6) (N := 13) hx hb ht0 niX6 hown hK hP 0 rfl rfl 12 (by decide) (ht0 _ wd136) (fun _ h9 => h9) rfl dX6_pass_82 ?_
          refine lv_iload_n hx hb dX6_pass_85 rfl (lv_at hl 1 rfl) ?_
          refine lv_ishr hx hb dX6_pass_86 ?_
          refine lv_iconst (v := 1) hx hb dX6_pass_87 (by decide) ?_
          refine lv_iand hx hb dX6_pass_88 ?_
          refine lv_if_eq (tgt := 122) hx hb dX6_pass_89 (by decide) (fun c89 => ?_) (fun c89 => ?_)
          · have hok := k_pos c89 hok
            exact J122 vW_cells_64 vW_who_64 H locs ls hP hD hS (lv_sub hl [0, 1] rfl) hok
          · have hok := k_neg c89 hok
            refine lv_aload_n hx hb dX6_pass_92 rfl (lv_at hl 0 rfl) ?_
            refine va_get (D := D) (ci := 5) (v := .ref (qW 0)) (C := RX6) (T := TX6) (N := 13) hx hb ht0 niX6 hown hK hP 0 rfl rfl 0 (by decide) (ht0 _ wd110) (fun _ h9 => h9) rfl dX6_pass_93 ?_
            refine lv_iload_n hx hb dX6_pass_96 rfl (lv_at hl 1 rfl) ?_
            refine lv_aload_n hx hb dX6_pass_97 rfl (lv_at hl 0 rfl) ?_
            refine va_get (D := D) (ci := 5) (v := .ref aH) (C := RX6) (T := TX6) (N := 13) hx hb ht0 niX6 hown hK hP 0 rfl rfl 4 (by decide) (ht0 _ wd101) (fun _ h9 => h9) rfl dX6_pass_98 ?_
            refine lv_aload_n hx hb dX6_pass_101 rfl (lv_at hl 0 rfl) ?_
            refine va_get (D := D) (ci := 5) (v := .ref (qW 0)) (C := RX6) (T := TX6) (N := 13) hx hb ht0 niX6 hown hK hP 0 rfl rfl 0 (by decide) (ht0 _ wd110) (fun _ h9 => h9) rfl dX6_pass_102 ?_
            refine lv_iload_n hx hb dX6_pass_105 rfl (lv_at hl 1 rfl) ?_
            obtain ⟨g106, hok⟩ := gd_some hok
            refine va_iald hx hb hK hP 2 0 rfl rfl (okI_in g106) dX6_pass_106 ?_
            obtain ⟨r107, hc107, hok⟩ := k_bind hok
            refine kCi (wc := (wX4_nextOf cy aH qH vH vH_next)) (wc2 := (wX4_nextOf cy aH qH vH vH_next)) (wr := [(aW, oX6 vW_64 qW aH), (qW 0, rI cy 7 vW_cells_64), (qW 1, rI cy 36 vW_who_64), (qW 2, rI cy 7 vW_inFront_64), (qH 15, rI cy 7 vH_sizes), (qH 11, rI cy 36 vH_width), (qH 14, rI cy 7 vH_kinds)]) (ws2 := (wX6_pass cy aW qW aH qH aH vW_64 vH vW_cells_64 vH_next vW_who_64 vW_inFront_64 vH_sizes vH_width vH_kinds)) (kRunV (As := [.int (vW_cells_64 y2_64.toNatClampNeg)]) (rest := [.int y2_64, .ref (qW 0)]) ⟨hx, hb, hml, hown, ht0⟩ (kX4_nextOf l D cy _ aH qH vH vH_next (vW_cells_64 y2_64.toNatClampNeg) r107 hc107 _ rfl) (cwV 1 ht0 (gV wd138 wd139 wd140 wd9 wd141) rfl rfl rfl (by decide +kernel) ⟨Nat.le_of_ble_eq_true rfl, Nat.le_of_ble_eq_true rfl⟩) hK hN hP hD [1, 3] rfl (by decide) 1 3 rfl rfl rfl hl.1 rfl (Nat.le_of_ble_eq_true rfl) dX6_pass_107 ⟨Nat.zero_le _, Nat.zero_le _⟩) hP hD hS hA [1, 3] [0, 2, 4, 5, 6, 7, 8] rfl rfl (by decide) (by decide) [0, 7, 1, 8, 2, 3, 4, 5, 6] (by decide) rfl rfl (fun H locs hP hD hS => ?_)
            obtain ⟨g110, hok⟩ := gd_some hok
            refine va_iast hx hb hK hP hD hS 2 0 rfl rfl (okI_in g110) dX6_pass_110 (fun H locs hP hD hS => ?_)
            have hP : va_P D vwCl (wX6_pass cy aW qW aH qH aH vW_64 vH (upd vW_cells_64 y2_64.toNatClampNeg r107) vH_next vW_who_64 vW_inFront_64 vH_sizes vH_width vH_kinds) H := hP
            have hD : va_D A (wX6_pass cy aW qW aH qH aH vW_64 vH (upd vW_cells_64 y2_64.toNatClampNeg r107) vH_next vW_who_64 vW_inFront_64 vH_sizes vH_width vH_kinds) := hD
            refine lv_aload_n hx hb dX6_pass_111 rfl (lv_at hl 0 rfl) ?_
            refine lv_iload_n hx hb dX6_pass_112 rfl (lv_at hl 1 rfl) ?_
            refine lv_aload_n hx hb dX6_pass_113 rfl (lv_at hl 0 rfl) ?_
            refine va_get (D := D) (ci := 5) (v := .ref (qW 0)) (C := RX6) (T := TX6) (N := 13) hx hb ht0 niX6 hown hK hP 0 rfl rfl 0 (by decide) (ht0 _ wd110) (fun _ h9 => h9) rfl dX6_pass_114 ?_
            refine lv_iload_n hx hb dX6_pass_117 rfl (lv_at hl 1 rfl) ?_
            obtain ⟨g118, hok⟩ := gd_some hok
            refine va_iald hx hb hK hP 2 0 rfl rfl (okI_in g118) dX6_pass_118 ?_
            obtain ⟨vW_who_119, hc119, hok⟩ := k_bind hok
            refine kCv (wc := (wX6_seat cy aW qW aH aH vW_64 vW_who_64)) (wc2 := (wX6_seat cy aW qW aH aH vW_64 vW_who_119)) (wr := [(aH, oX4 vH qH), (qW 0, rI cy 7 (upd vW_cells_64 y2_64.toNatClampNeg r107)), (qH 10, rI cy 36 vH_next), (qW 2, rI cy 7 vW_inFront_64), (qH 15, rI cy 7 vH_sizes), (qH 11, rI cy 36 vH_width), (qH 14, rI cy 7 vH_kinds)]) (ws2 := (wX6_pass cy aW qW aH qH aH vW_64 vH (upd vW_cells_64 y2_64.toNatClampNeg r107) vH_next vW_who_119 vW_inFront_64 vH_sizes vH_width vH_kinds)) (kRunV (As := [.int y2_64, .int ((upd vW_cells_64 y2_64.toNatClampNeg r107) y2_64.toNatClampNeg)]) (rest := []) ⟨hx, hb, hml, hown, ht0⟩ (kX6_seat l D cy _ aW qW aH vW_64 vW_who_64 y2_64 ((upd vW_cells_64 y2_64.toNatClampNeg r107) y2_64.toNatClampNeg) vW_who_119 hc119 _ rfl) (cwV 2 ht0 (gV wd111 wd112 wd113 wd114 wd115) rfl rfl rfl (by decide +kernel) ⟨Nat.le_of_ble_eq_true rfl, Nat.le_of_ble_eq_true rfl⟩) hK hN hP hD [0, 4] rfl (by decide) 0 5 rfl rfl rfl hl.1 rfl (Nat.le_of_ble_eq_true rfl) dX6_pass_119 ⟨Nat.zero_le _, Nat.zero_le _⟩) hP hD hS hA [0, 4] [1, 2, 3, 5, 6, 7, 8] rfl rfl (by decide) (by decide) [7, 0, 1, 2, 8, 3, 4, 5, 6] (by decide) rfl rfl (fun H locs hP hD hS => ?_)
            exact J122 (upd vW_cells_64 y2_64.toNatClampNeg r107) vW_who_119 H locs ls hP hD hS (lv_sub hl [0, 1] rfl) hok
  have J62 : ∀ (vW_inFront_62 : Nat → Int32) (vW_who_62 : Nat → Int32) (vW_62 : Nat → Int32), ∀ (H : Heap) (locs : List Loc) (ls : Array Slot), va_P D vwCl (wX6_pass cy aW qW aH qH aH vW_62 vH vW_cells vH_next vW_who_62 vW_inFront_62 vH_sizes vH_width vH_kinds) H → va_D A (wX6_pass cy aW qW aH qH aH vW_62 vH vW_cells vH_next vW_who_62 vW_inFront_62 vH_sizes vH_width vH_kinds) → va_S A s.heap H locs → lv_has ls 3 [(0, .ref aW)] → fX6_pass_J62 vH vW_cells vH_next vW_inFront_62 vW_who_62 vW_62 = some (z_vW, z_vW_cells, z_vW_who, z_vW_inFront) → W p l e ({ frames := 2, cells := 0, slots := 0, locals := 51 } : Room) s m ([.ref aW, .int x1] : List Value).toArray below meth c H locs 0 0 Q (F0 m 62 ls []) := by
    intro vW_inFront_62 vW_who_62 vW_62 H locs ls hP hD hS hl hok
    unfold fX6_pass_J62 at hok
    refine lv_iconst (v := 0) hx hb dX6_pass_62 (by decide) ?_
    refine lv_istore_n (lv' := [(2, .int 0), (0, .ref aW)]) hx hb dX6_pass_63 rfl hl (by decide) rfl (fun ls hl => ?_)
    exact L64 5000 (0 : Int32) vW_cells vW_inFront_62 vW_who_62 vW_62 H locs ls hP hD hS (lv_sub hl [1, 0] rfl) hok
  have L17 : ∀ (fuel : Nat) (y2_17 : Int32) (vW_inFront_17 : Nat → Int32) (vW_who_17 : Nat → Int32) (vW_17 : Nat → Int32), ∀ (H : Heap) (locs : List Loc) (ls : Array Slot), va_P D vwCl (wX6_pass cy aW qW aH qH aH vW_17 vH vW_cells vH_next vW_who_17 vW_inFront_17 vH_sizes vH_width vH_kinds) H → va_D A (wX6_pass cy aW qW aH qH aH vW_17 vH vW_cells vH_next vW_who_17 vW_inFront_17 vH_sizes vH_width vH_kinds) → va_S A s.heap H locs → lv_has ls 3 [(0, .ref aW), (2, .int y2_17)] → lp (fX6_pass_B17 vH vW_cells vH_next) fuel (y2_17, vW_inFront_17, vW_who_17, vW_17) = some (z_vW, z_vW_cells, z_vW_who, z_vW_inFront) → W p l e ({ frames := 2, cells := 0, slots := 0, locals := 51 } : Room) s m ([.ref aW, .int x1] : List Value).toArray below meth c H locs 0 0 Q (F0 m 17 ls []) := by
    intro fuel
    induction fuel with
    | zero => intro y2_17 vW_inFront_17 vW_who_17 vW_17 H locs ls hP hD hS hl hok; exact (lp_0 hok).elim
    | succ fuel ih17 =>
      intro y2_17 vW_inFront_17 vW_who_17 vW_17 H locs ls hP hD hS hl hok
      obtain ⟨y17, hok, hL17, hR17⟩ := lp_step hok
      have J56 : ∀ (vW_who_56 : Nat → Int32), ∀ (H : Heap) (locs : List Loc) (ls : Array Slot), va_P D vwCl (wX6_pass cy aW qW aH qH aH vW_17 vH vW_cells vH_next vW_who_56 vW_inFront_17 vH_sizes vH_width vH_kinds) H → va_D A (wX6_pass cy aW qW aH qH aH vW_17 vH vW_cells vH_next vW_who_56 vW_inFront_17 vH_sizes vH_width vH_kinds) → va_S A s.heap H locs → lv_has ls 3 [(0, .ref aW), (2, .int y2_17)] → fX6_pass_J56 y2_17 vW_inFront_17 vW_17 vW_who_56 = some y17 → W p l e ({ frames := 2, cells := 0, slots := 0, locals := 51 } : Room) s m ([.ref aW, .int x1] : List Value).toArray below meth c H locs 0 0 Q (F0 m 56 ls []) := by
        intro vW_who_56 H locs ls hP hD hS hl hok
        unfold fX6_pass_J56 at hok
        refine lv_iinc (v := (y2_17 + 1)) (lv' := [(2, .int (y2_17 + 1)), (0, .ref aW)]) hx hb dX6_pass_56 hl (k := 1) rfl (by first | rfl | decide) (by decide) rfl (fun ls hl => ?_)
        refine lv_goto (tgt := 17) hx hb dX6_pass_59 (by decide) ?_
        exact ih17 (y2_17 + 1) vW_inFront_17 vW_who_56 vW_17 H locs ls hP hD hS (lv_sub hl [1, 0] rfl) (hR17 _ (Option.some.inj hok).symm)
      unfold fX6_pass_B17 at hok
      try dsimp only at hok
      refine lv_iload_n hx hb dX6_pass_17 rfl (lv_at hl 1 rfl) ?_
      refine lv_aload_n hx hb dX6_pass_18 rfl (lv_at hl 0 rfl) ?_
      refine va_get (D := D) (ci := 5) (v := .ref aH) (C := RX6) (T := TX6) (N := 13) hx hb ht0 niX6 hown hK hP 0 rfl rfl 4 (by decide) (ht0 _ wd101) (fun _ h9 => h9) rfl dX6_pass_19 ?_
      refine va_get (D := D) (ci := 3) (v := .int (vH 5)) (C := RX4) (T := TX4) (N := 20) hx hb ht0 niX4 hown hK hP 1 rfl rfl 5 (by decide) (ht0 _ wd107) (fun _ h9 => h9) rfl dX6_pass_22 ?_
      refine lv_icmp_ge (tgt := 62) hx hb dX6_pass_25 (by decide) (fun c25 => ?_) (fun c25 => ?_)
      · have hok := k_pos c25 hok
        obtain ⟨e17, hok, he17⟩ := ex_some hok
        have hok := hok.trans (congrArg some (hL17 _ he17))
        exact J62 vW_inFront_17 vW_who_17 vW_17 H locs ls hP hD hS (lv_sub hl [0] rfl) hok
      · have hok := k_neg c25 hok
        refine lv_iload_n hx hb dX6_pass_28 rfl (lv_at hl 1 rfl) ?_
        refine lv_bipush (v := 7) hx hb dX6_pass_29 (by decide) ?_
        refine lv_icmp_ge (tgt := 62) hx hb dX6_pass_31 (by decide) (fun c31 => ?_) (fun c31 => ?_)
        · have hok := k_pos c31 hok
          obtain ⟨e17, hok, he17⟩ := ex_some hok
          have hok := hok.trans (congrArg some (hL17 _ he17))
          exact J62 vW_inFront_17 vW_who_17 vW_17 H locs ls hP hD hS (lv_sub hl [0] rfl) hok
        · have hok := k_neg c31 hok
          refine lv_aload_n hx hb dX6_pass_34 rfl (lv_at hl 0 rfl) ?_
          refine va_get (D := D) (ci := 5) (v := .int (vW_17 12)) (C := RX6) (T := TX6) (N := 13) hx hb ht0 niX6 hown hK hP 0 rfl rfl 12 (by decide) (ht0 _ wd136) (fun _ h9 => h9) rfl dX6_pass_35 ?_
          refine lv_iload_n hx hb dX6_pass_38 rfl (lv_at hl 1 rfl) ?_
          refine lv_ishr hx hb dX6_pass_39 ?_
          refine lv_iconst (v := 1) hx hb dX6_pass_40 (by decide) ?_
          refine lv_iand hx hb dX6_pass_41 ?_
          refine lv_if_eq (tgt := 56) hx hb dX6_pass_42 (by decide) (fun c42 => ?_) (fun c42 => ?_)
          · have hok := k_pos c42 hok
            exact J56 vW_who_17 H locs ls hP hD hS (lv_sub hl [0, 1] rfl) hok
          · have hok := k_neg c42 hok
            refine lv_aload_n hx hb dX6_pass_45 rfl (lv_at hl 0 rfl) ?_
            refine lv_iconst (v := -1) hx hb dX6_pass_46 (by decide) ?_
            refine lv_aload_n hx hb dX6_pass_47 rfl (lv_at hl 0 rfl) ?_
            refine va_get (D := D) (ci := 5) (v := .ref (qW 0)) (C := RX6) (T := TX6) (N := 13) hx hb ht0 niX6 hown hK hP 0 rfl rfl 0 (by decide) (ht0 _ wd110) (fun _ h9 => h9) rfl dX6_pass_48 ?_
            refine lv_iload_n hx hb dX6_pass_51 rfl (lv_at hl 1 rfl) ?_
            obtain ⟨g52, hok⟩ := gd_some hok
            refine va_iald hx hb hK hP 2 0 rfl rfl (okI_in g52) dX6_pass_52 ?_
            obtain ⟨vW_who_53, hc53, hok⟩ := k_bind hok
            refine kCv (wc := (wX6_seat cy aW qW aH aH vW_17 vW_who_17)) (wc2 := (wX6_seat cy aW qW aH aH vW_17 vW_who_53)) (wr := [(aH, oX4 vH qH), (qW 0, rI cy 7 vW_cells), (qH 10, rI cy 36 vH_next), (qW 2, rI cy 7 vW_inFront_17), (qH 15, rI cy 7 vH_sizes), (qH 11, rI cy 36 vH_width), (qH 14, rI cy 7 vH_kinds)]) (ws2 := (wX6_pass cy aW qW aH qH aH vW_17 vH vW_cells vH_next vW_who_53 vW_inFront_17 vH_sizes vH_width vH_kinds)) (kRunV (As := [.int (-1), .int (vW_cells y2_17.toNatClampNeg)]) (rest := []) ⟨hx, hb, hml, hown, ht0⟩ (kX6_seat l D cy _ aW qW aH vW_17 vW_who_17 (-1 : Int32) (vW_cells y2_17.toNatClampNeg) vW_who_53 hc53 _ rfl) (cwV 2 ht0 (gV wd111 wd112 wd113 wd114 wd115) rfl rfl rfl (by decide +kernel) ⟨Nat.le_of_ble_eq_true rfl, Nat.le_of_ble_eq_true rfl⟩) hK hN hP hD [0, 4] rfl (by decide) 0 5 rfl rfl rfl hl.1 rfl (Nat.le_of_ble_eq_true rfl) dX6_pass_53 ⟨Nat.zero_le _, Nat.zero_le _⟩) hP hD hS hA [0, 4] [1, 2, 3, 5, 6, 7, 8] rfl rfl (by decide) (by decide) [7, 0, 1, 2, 8, 3, 4, 5, 6] (by decide) rfl rfl (fun H locs hP hD hS => ?_)
            exact J56 vW_who_53 H locs ls hP hD hS (lv_sub hl [0, 1] rfl) hok
  unfold fX6_pass at hok
  obtain ⟨H, hH⟩ : ∃ H, H = s.heap := ⟨_, rfl⟩
  obtain ⟨locs, hlc⟩ : ∃ x : List Loc, x = [] := ⟨_, rfl⟩
  have hP : va_P D vwCl (wX6_pass cy aW qW aH qH aH vW vH vW_cells vH_next vW_who vW_inFront vH_sizes vH_width vH_kinds) H := by rw [hH]; exact hP
  have hS : va_S A s.heap H locs := by rw [hH, hlc]; exact hS
  rw [show W p l e _ s m _ below meth c s.heap [] = W p l e _ s m _ below meth c H locs from by rw [hH, hlc]]
  refine lv_aload_n hx hb dX6_pass_0 rfl (lv_at hl 0 rfl) ?_
  refine lv_iload_n hx hb dX6_pass_1 rfl (lv_at hl 1 rfl) ?_
  obtain ⟨⟨vW_2, vW_inFront_2⟩, hc2, hok⟩ := k_bind hok
  try dsimp only at hok
  refine kCv (wc := (wX6_decide cy aW qW aH qH aH vW vH vW_cells vH_next vW_who vW_inFront vH_sizes vH_width vH_kinds)) (wc2 := (wX6_decide cy aW qW aH qH aH vW_2 vH vW_cells vH_next vW_who vW_inFront_2 vH_sizes vH_width vH_kinds)) (wr := []) (ws2 := (wX6_pass cy aW qW aH qH aH vW_2 vH vW_cells vH_next vW_who vW_inFront_2 vH_sizes vH_width vH_kinds)) (kRunV (As := [.int x1]) (rest := []) ⟨hx, hb, hml, hown, ht0⟩ (kX6_decide l D cy _ aW qW aH qH vW vH vW_cells vH_next vW_who vW_inFront vH_sizes vH_width vH_kinds x1 vW_2 vW_inFront_2 hc2 _ rfl) (cwV 1 ht0 (gV wd150 wd151 wd152 wd114 wd153) rfl rfl rfl (by decide +kernel) ⟨Nat.le_of_ble_eq_true rfl, Nat.le_of_ble_eq_true rfl⟩) hK hN hP hD [0, 1, 2, 3, 4, 5, 6, 7, 8] rfl (by decide) 0 5 rfl rfl rfl hl.1 rfl (Nat.le_of_ble_eq_true rfl) dX6_pass_2 ⟨Nat.zero_le _, Nat.zero_le _⟩) hP hD hS hA [0, 1, 2, 3, 4, 5, 6, 7, 8] [] rfl rfl (by decide) (by decide) [0, 1, 2, 3, 4, 5, 6, 7, 8] (by decide) rfl rfl (fun H locs hP hD hS => ?_)
  refine lv_aload_n hx hb dX6_pass_5 rfl (lv_at hl 0 rfl) ?_
  refine lv_dup hx hb dX6_pass_6 rfl ?_
  refine va_get (D := D) (ci := 5) (v := .int (vW_2 5)) (C := RX6) (T := TX6) (N := 13) hx hb ht0 niX6 hown hK hP 0 rfl rfl 5 (by decide) (ht0 _ wd120) (fun _ h9 => h9) rfl dX6_pass_7 ?_
  refine lv_iconst (v := 1) hx hb dX6_pass_10 (by decide) ?_
  refine lv_iadd hx hb dX6_pass_11 ?_
  refine va_put (D := D) (ci := 5) (v := .int ((vW_2 5) + (1 : Int32))) (ty := .int) (C := RX6) (T := TX6) (N := 13) hx hb ht0 niX6 tyX6 tyX6_ok nmX6 hown hK hP hD hS 0 rfl rfl 5 (by decide) (ht0 _ wd120) (fun _ h9 => h9) rfl (by decide +kernel) rfl rfl (Nat.le_of_ble_eq_true rfl) dX6_pass_12 (fun H locs hP hD hS => ?_)
  have hP : va_P D vwCl (wX6_pass cy aW qW aH qH aH (upd vW_2 5 ((vW_2 5) + (1 : Int32))) vH vW_cells vH_next vW_who vW_inFront_2 vH_sizes vH_width vH_kinds) H := hP
  have hD : va_D A (wX6_pass cy aW qW aH qH aH (upd vW_2 5 ((vW_2 5) + (1 : Int32))) vH vW_cells vH_next vW_who vW_inFront_2 vH_sizes vH_width vH_kinds) := hD
  refine lv_iconst (v := 0) hx hb dX6_pass_15 (by decide) ?_
  refine lv_istore_n (lv' := [(2, .int 0), (0, .ref aW), (1, .int x1)]) hx hb dX6_pass_16 rfl hl (by decide) rfl (fun ls hl => ?_)
  exact L17 5000 (0 : Int32) vW_inFront_2 vW_who (upd vW_2 5 ((vW_2 5) + (1 : Int32))) H locs ls hP hD hS (lv_sub hl [1, 0] rfl) hok
def wsX6_goOn : List Cond := .code yX6_goOn cX6_goOn 4 (some .int) :: W0
abbrev wX6_goOn (cy : Nat → ClassId) (aW : Nat) (qW : Nat → Nat) (aH : Nat) (qH : Nat → Nat) (fvW_4 : Nat) (vW : Nat → Int32) (vH : Nat → Int32) (vW_cells : Nat → Int32) (vH_next : Nat → Int32) (vW_who : Nat → Int32) (vW_inFront : Nat → Int32) (vH_sizes : Nat → Int32) (vH_width : Nat → Int32) (vH_kinds : Nat → Int32) : va_W := [(aW, oX6 vW qW fvW_4), (aH, oX4 vH qH), (qW 0, rI cy 7 vW_cells), (qH 10, rI cy 36 vH_next), (qW 1, rI cy 36 vW_who), (qW 2, rI cy 7 vW_inFront), (qH 15, rI cy 7 vH_sizes), (qH 11, rI cy 36 vH_width), (qH 14, rI cy 7 vH_kinds)]
set_option maxHeartbeats 4000000 in
set_option maxRecDepth 100000 in
theorem kX6_goOn (l : Launch) (D : va_G) (cy : Nat → ClassId) (sz : Nat) (aW : Nat) (qW : Nat → Nat) (aH : Nat) (qH : Nat → Nat) (vW : Nat → Int32) (vH : Nat → Int32) (vW_cells : Nat → Int32) (vH_next : Nat → Int32) (vW_who : Nat → Int32) (vW_inFront : Nat → Int32) (vH_sizes : Nat → Int32) (vH_width : Nat → Int32) (vH_kinds : Nat → Int32) (x1 : Int32) (zr : Int32) (z_vW : Nat → Int32) (z_vW_cells : Nat → Int32) (z_vW_who : Nat → Int32) (z_vW_inFront : Nat → Int32) (hok : fX6_goOn vW vH vW_cells vH_next vW_who vW_inFront vH_sizes vH_width vH_kinds x1 = some (zr, z_vW, z_vW_cells, z_vW_who, z_vW_inFront)) (A : Nat → Prop) (hAe : va_A (wX6_goOn cy aW qW aH qH aH vW vH vW_cells vH_next vW_who vW_inFront vH_sizes vH_width vH_kinds) sz = A) : Met l yX6_goOn wsX6_goOn ({ frames := 3, cells := 0, slots := 0, locals := 73 } : Room) (kPre D cy [.ref aW, .int x1] (wX6_goOn cy aW qW aH qH aH vW vH vW_cells vH_next vW_who vW_inFront vH_sizes vH_width vH_kinds) sz) (kQi D cy zr A (wX6_goOn cy aW qW aH qH aH z_vW vH z_vW_cells vH_next z_vW_who z_vW_inFront vH_sizes vH_width vH_kinds)) 0 0 A := by
  refine Met.ofW (cc := cX6_goOn) (maxL := 4) (ret := (some .int)) (by decide) rfl ?_
  intro p e s m args below meth c s₁ B hml hv
  obtain ⟨rfl, hsz, hP, hK, hD0, hN⟩ := hv
  have hx := B.exec
  have hb := B.bytes
  have hr := B.returns
  have ht0 : ∀ w ∈ W0, w.before _ s = true := fun w h => atoms_spec (ws := wsX6_goOn) B.pre w (List.mem_cons_of_mem _ h)
  have hown : s.vm.findClass RX6 = some m.cls := findClass_of_methodNamed B.named
  have hlocks := B.notSynchronized
  subst hsz
  have hD : va_D A (wX6_goOn cy aW qW aH qH aH vW vH vW_cells vH_next vW_who vW_inFront vH_sizes vH_width vH_kinds) := by rw [← hAe]; exact hD0.self
  have hA : ∀ q : Nat, s.heap.size ≤ q → A q := fun q h => by rw [← hAe]; exact Or.inr h
  have hS : va_S A s.heap s.heap [] := va_S.rf
  have hl := lv_entry ([.ref aW, .int x1]) (n := 4) (Nat.le_of_ble_eq_true rfl)
  rw [lg_entry_eq]
  generalize (lg_sl ([.ref aW, .int x1]) ++ List.replicate (4 - (lg_sl ([.ref aW, .int x1])).length) Slot.unset).toArray = ls at hl ⊢
  have hl : lv_has ls 4 [(0, .ref aW), (1, .int x1)] := hl
  generalize hQe : MQ below (kQi D cy zr A (wX6_goOn cy aW qW aH qH aH z_vW vH z_vW_cells vH_next z_vW_who z_vW_inFront vH_sizes vH_width vH_kinds)) ([.ref aW, .int x1] : List Value).toArray s 0 0 A = Q
  have L4 : ∀ (fuel : Nat) (y2_4 : Int32) (y3_4 : Int32) (vW_cells_4 : Nat → Int32) (vW_inFront_4 : Nat → Int32) (vW_who_4 : Nat → Int32) (vW_4 : Nat → Int32), ∀ (H : Heap) (locs : List Loc) (ls : Array Slot), va_P D vwCl (wX6_goOn cy aW qW aH qH aH vW_4 vH vW_cells_4 vH_next vW_who_4 vW_inFront_4 vH_sizes vH_width vH_kinds) H → va_D A (wX6_goOn cy aW qW aH qH aH vW_4 vH vW_cells_4 vH_next vW_who_4 vW_inFront_4 vH_sizes vH_width vH_kinds) → va_S A s.heap H locs → lv_has ls 4 [(0, .ref aW), (1, .int x1), (2, .int y2_4), (3, .int y3_4)] → lp (fX6_goOn_B4 vH vH_next vH_sizes vH_width vH_kinds x1) fuel (y2_4, y3_4, vW_cells_4, vW_inFront_4, vW_who_4, vW_4) = some (zr, z_vW, z_vW_cells, z_vW_who, z_vW_inFront) → W p l e ({ frames := 3, cells := 0, slots := 0, locals := 73 } : Room) s m ([.ref aW, .int x1] : List Value).toArray below meth c H locs 0 0 Q (F0 m 4 ls []) := by
    intro fuel
    induction fuel with
    | zero => intro y2_4 y3_4 vW_cells_4 vW_inFront_4 vW_who_4 vW_4 H locs ls hP hD hS hl hok; exact (lp_0 hok).elim
    | succ fuel ih4 =>
      intro y2_4 y3_4 vW_cells_4 vW_inFront_4 vW_who_4 vW_4 H locs ls hP hD hS hl hok
      obtain ⟨y4, hok, hL4, hR4⟩ := lp_step hok
      unfold fX6_goOn_B4 at hok
      try dsimp only at hok
      refine lv_iload_n hx hb dX6_goOn_4 rfl (lv_at hl 3 rfl) ?_
      refine lv_iload_n hx hb dX6_goOn_5 rfl (lv_at hl 1 rfl) ?_
      refine lv_icmp_ge (tgt := 30) hx hb dX6_goOn_6 (by decide) (fun c6 => ?_) (fun c6 => ?_)
      · have hok := k_pos c6 hok
        obtain ⟨e4, hok, he4⟩ := ex_some hok
        have hok := hok.trans (congrArg some (hL4 _ he4))
        refine lv_iload_n hx hb dX6_goOn_30 rfl (lv_at hl 2 rfl) ?_
        cases hok
        subst hQe; exact W.iret hx hb hr (fun t ht hW => ⟨⟨_, (), rfl, rfl, by rw [ht]; exact hP, va_K.moved hW.alike hK, hD⟩, hS.F ht⟩) hS.2.2 dX6_goOn_31
      · have hok := k_neg c6 hok
        refine lv_aload_n hx hb dX6_goOn_9 rfl (lv_at hl 0 rfl) ?_
        refine lv_iconst (v := 0) hx hb dX6_goOn_10 (by decide) ?_
        obtain ⟨⟨vW_11, vW_cells_11, vW_who_11, vW_inFront_11⟩, hc11, hok⟩ := k_bind hok
        try dsimp only at hok
        refine kCv (wc := (wX6_pass cy aW qW aH qH aH vW_4 vH vW_cells_4 vH_next vW_who_4 vW_inFront_4 vH_sizes vH_width vH_kinds)) (wc2 := (wX6_pass cy aW qW aH qH aH vW_11 vH vW_cells_11 vH_next vW_who_11 vW_inFront_11 vH_sizes vH_width vH_kinds)) (wr := []) (ws2 := (wX6_goOn cy aW qW aH qH aH vW_11 vH vW_cells_11 vH_next vW_who_11 vW_inFront_11 vH_sizes vH_width vH_kinds)) (kRunV (As := [.int 0]) (rest := []) ⟨hx, hb, hml, hown, ht0⟩ (kX6_pass l D cy _ aW qW aH qH vW_4 vH vW_cells_4 vH_next vW_who_4 vW_inFront_4 vH_sizes vH_width vH_kinds (0 : Int32) vW_11 vW_cells_11 vW_who_11 vW_inFront_11 hc11 _ rfl) (cwV 1 ht0 (gV wd154 wd155 wd156 wd114 wd157) rfl rfl rfl (by decide +kernel) ⟨Nat.le_of_ble_eq_true rfl, Nat.le_of_ble_eq_true rfl⟩) hK hN hP hD [0, 1, 2, 3, 4, 5, 6, 7, 8] rfl (by decide) 0 5 rfl rfl rfl hl.1 rfl (Nat.le_of_ble_eq_true rfl) dX6_goOn_11 ⟨Nat.zero_le _, Nat.zero_le _⟩) hP hD hS hA [0, 1, 2, 3, 4, 5, 6, 7, 8] [] rfl rfl (by decide) (by decide) [0, 1, 2, 3, 4, 5, 6, 7, 8] (by decide) rfl rfl (fun H locs hP hD hS => ?_)
        refine lv_iload_n hx hb dX6_goOn_14 rfl (lv_at hl 2 rfl) ?_
        refine lv_aload_n hx hb dX6_goOn_15 rfl (lv_at hl 0 rfl) ?_
        refine va_get (D := D) (ci := 5) (v := .int (vW_11 12)) (C := RX6) (T := TX6) (N := 13) hx hb ht0 niX6 hown hK hP 0 rfl rfl 12 (by decide) (ht0 _ wd136) (fun _ h9 => h9) rfl dX6_goOn_16 ?_
        obtain ⟨r19, hc19, hok⟩ := k_bind hok
        refine kCi (wc := (wJ6_bitCount_0f7a4 cy )) (wc2 := (wJ6_bitCount_0f7a4 cy )) (wr := [(aW, oX6 vW_11 qW aH), (aH, oX4 vH qH), (qW 0, rI cy 7 vW_cells_11), (qH 10, rI cy 36 vH_next), (qW 1, rI cy 36 vW_who_11), (qW 2, rI cy 7 vW_inFront_11), (qH 15, rI cy 7 vH_sizes), (qH 11, rI cy 36 vH_width), (qH 14, rI cy 7 vH_kinds)]) (ws2 := (wX6_goOn cy aW qW aH qH aH vW_11 vH vW_cells_11 vH_next vW_who_11 vW_inFront_11 vH_sizes vH_width vH_kinds)) (kRunS (As := [.int (vW_11 12)]) (rest := [.int y2_4]) ⟨hx, hb, hml, hown, ht0⟩ (kJ6_bitCount_0f7a4 l D cy _ (vW_11 12) r19 hc19 _ rfl) (va_cwS 1 ht0 (gS wd158 wd89 wd90 wd91) rfl rfl rfl (by decide +kernel) ⟨Nat.le_of_ble_eq_true rfl, Nat.le_of_ble_eq_true rfl⟩) hK hN hP hD [] rfl (by decide) rfl hl.1 rfl (Nat.le_of_ble_eq_true rfl) dX6_goOn_19 ⟨Nat.zero_le _, Nat.zero_le _⟩) hP hD hS hA [] [0, 1, 2, 3, 4, 5, 6, 7, 8] rfl rfl (by decide) (by decide) [0, 1, 2, 3, 4, 5, 6, 7, 8] (by decide) rfl rfl (fun H locs hP hD hS => ?_)
        refine lv_iadd hx hb dX6_goOn_22 ?_
        refine lv_istore_n (lv' := [(2, .int (y2_4 + r19)), (0, .ref aW), (1, .int x1), (3, .int y3_4)]) hx hb dX6_goOn_23 rfl hl (by decide) rfl (fun ls hl => ?_)
        refine lv_iinc (v := (y3_4 + 1)) (lv' := [(3, .int (y3_4 + 1)), (2, .int (y2_4 + r19)), (0, .ref aW), (1, .int x1)]) hx hb dX6_goOn_24 hl (k := 3) rfl (by first | rfl | decide) (by decide) rfl (fun ls hl => ?_)
        refine lv_goto (tgt := 4) hx hb dX6_goOn_27 (by decide) ?_
        exact ih4 (y2_4 + r19) (y3_4 + 1) vW_cells_11 vW_inFront_11 vW_who_11 vW_11 H locs ls hP hD hS (lv_sub hl [2, 3, 1, 0] rfl) (hR4 _ (Option.some.inj hok).symm)
  unfold fX6_goOn at hok
  obtain ⟨H, hH⟩ : ∃ H, H = s.heap := ⟨_, rfl⟩
  obtain ⟨locs, hlc⟩ : ∃ x : List Loc, x = [] := ⟨_, rfl⟩
  have hP : va_P D vwCl (wX6_goOn cy aW qW aH qH aH vW vH vW_cells vH_next vW_who vW_inFront vH_sizes vH_width vH_kinds) H := by rw [hH]; exact hP
  have hS : va_S A s.heap H locs := by rw [hH, hlc]; exact hS
  rw [show W p l e _ s m _ below meth c s.heap [] = W p l e _ s m _ below meth c H locs from by rw [hH, hlc]]
  refine lv_iconst (v := 0) hx hb dX6_goOn_0 (by decide) ?_
  refine lv_istore_n (lv' := [(2, .int 0), (0, .ref aW), (1, .int x1)]) hx hb dX6_goOn_1 rfl hl (by decide) rfl (fun ls hl => ?_)
  refine lv_iconst (v := 0) hx hb dX6_goOn_2 (by decide) ?_
  refine lv_istore_n (lv' := [(3, .int 0), (2, .int 0), (0, .ref aW), (1, .int x1)]) hx hb dX6_goOn_3 rfl hl (by decide) rfl (fun ls hl => ?_)
  exact L4 5000 (0 : Int32) (0 : Int32) vW_cells vW_inFront vW_who vW H locs ls hP hD hS (lv_sub hl [2, 3, 1, 0] rfl) hok
def wsX6_cellOf : List Cond := .code yX6_cellOf cX6_cellOf 2 (some .int) :: W0
abbrev wX6_cellOf (cy : Nat → ClassId) (aW : Nat) (qW : Nat → Nat) (aH : Nat) (fvW_4 : Nat) (vW : Nat → Int32) (vW_cells : Nat → Int32) : va_W := [(aW, oX6 vW qW fvW_4), (qW 0, rI cy 7 vW_cells)]
set_option maxHeartbeats 4000000 in
set_option maxRecDepth 100000 in
theorem kX6_cellOf (l : Launch) (D : va_G) (cy : Nat → ClassId) (sz : Nat) (aW : Nat) (qW : Nat → Nat) (aH : Nat) (vW : Nat → Int32) (vW_cells : Nat → Int32) (x1 : Int32) (zr : Int32) (hok : fX6_cellOf vW vW_cells x1 = some zr) (A : Nat → Prop) (hAe : va_A (wX6_cellOf cy aW qW aH aH vW vW_cells) sz = A) : Met l yX6_cellOf wsX6_cellOf ({ frames := 0, cells := 0, slots := 0, locals := 0 } : Room) (kPre D cy [.ref aW, .int x1] (wX6_cellOf cy aW qW aH aH vW vW_cells) sz) (kQi D cy zr A (wX6_cellOf cy aW qW aH aH vW vW_cells)) 0 0 A := by
  refine Met.ofW (cc := cX6_cellOf) (maxL := 2) (ret := (some .int)) (by decide) rfl ?_
  intro p e s m args below meth c s₁ B hml hv
  obtain ⟨rfl, hsz, hP, hK, hD0, hN⟩ := hv
  have hx := B.exec
  have hb := B.bytes
  have hr := B.returns
  have ht0 : ∀ w ∈ W0, w.before _ s = true := fun w h => atoms_spec (ws := wsX6_cellOf) B.pre w (List.mem_cons_of_mem _ h)
  have hown : s.vm.findClass RX6 = some m.cls := findClass_of_methodNamed B.named
  have hlocks := B.notSynchronized
  subst hsz
  have hD : va_D A (wX6_cellOf cy aW qW aH aH vW vW_cells) := by rw [← hAe]; exact hD0.self
  have hA : ∀ q : Nat, s.heap.size ≤ q → A q := fun q h => by rw [← hAe]; exact Or.inr h
  have hS : va_S A s.heap s.heap [] := va_S.rf
  have hl := lv_entry ([.ref aW, .int x1]) (n := 2) (Nat.le_of_ble_eq_true rfl)
  rw [lg_entry_eq]
  generalize (lg_sl ([.ref aW, .int x1]) ++ List.replicate (2 - (lg_sl ([.ref aW, .int x1])).length) Slot.unset).toArray = ls at hl ⊢
  have hl : lv_has ls 2 [(0, .ref aW), (1, .int x1)] := hl
  generalize hQe : MQ below (kQi D cy zr A (wX6_cellOf cy aW qW aH aH vW vW_cells)) ([.ref aW, .int x1] : List Value).toArray s 0 0 A = Q
  have J20 : ∀ (t0_20 : Int32), ∀ (H : Heap) (locs : List Loc) (ls : Array Slot), va_P D vwCl (wX6_cellOf cy aW qW aH aH vW vW_cells) H → va_D A (wX6_cellOf cy aW qW aH aH vW vW_cells) → va_S A s.heap H locs → lv_has ls 2 [] → fX6_cellOf_J20 t0_20 = some zr → W p l e ({ frames := 0, cells := 0, slots := 0, locals := 0 } : Room) s m ([.ref aW, .int x1] : List Value).toArray below meth c H locs 0 0 Q (F0 m 20 ls [.int t0_20]) := by
    intro t0_20 H locs ls hP hD hS hl hok
    unfold fX6_cellOf_J20 at hok
    cases hok
    subst hQe; exact W.iret hx hb hr (fun t ht hW => ⟨⟨_, (), rfl, rfl, by rw [ht]; exact hP, va_K.moved hW.alike hK, hD⟩, hS.F ht⟩) hS.2.2 dX6_cellOf_20
  have J19 : ∀ (H : Heap) (locs : List Loc) (ls : Array Slot), va_P D vwCl (wX6_cellOf cy aW qW aH aH vW vW_cells) H → va_D A (wX6_cellOf cy aW qW aH aH vW vW_cells) → va_S A s.heap H locs → lv_has ls 2 [] → fX6_cellOf_J19 = some zr → W p l e ({ frames := 0, cells := 0, slots := 0, locals := 0 } : Room) s m ([.ref aW, .int x1] : List Value).toArray below meth c H locs 0 0 Q (F0 m 19 ls []) := by
    intro  H locs ls hP hD hS hl hok
    unfold fX6_cellOf_J19 at hok
    refine lv_iconst (v := 0) hx hb dX6_cellOf_19 (by decide) ?_
    exact J20 (0 : Int32) H locs ls hP hD hS (lv_sub hl [] rfl) hok
  unfold fX6_cellOf at hok
  obtain ⟨H, hH⟩ : ∃ H, H = s.heap := ⟨_, rfl⟩
  obtain ⟨locs, hlc⟩ : ∃ x : List Loc, x = [] := ⟨_, rfl⟩
  have hP : va_P D vwCl (wX6_cellOf cy aW qW aH aH vW vW_cells) H := by rw [hH]; exact hP
  have hS : va_S A s.heap H locs := by rw [hH, hlc]; exact hS
  rw [show W p l e _ s m _ below meth c s.heap [] = W p l e _ s m _ below meth c H locs from by rw [hH, hlc]]
  refine lv_iload_n hx hb dX6_cellOf_0 rfl (lv_at hl 1 rfl) ?_
  refine lv_if_lt (tgt := 19) hx hb dX6_cellOf_1 (by decide) (fun c1 => ?_) (fun c1 => ?_)
  · have hok := k_pos c1 hok
    exact J19  H locs ls hP hD hS (lv_sub hl [] rfl) hok
  · have hok := k_neg c1 hok
    refine lv_iload_n hx hb dX6_cellOf_4 rfl (lv_at hl 1 rfl) ?_
    refine lv_bipush (v := 7) hx hb dX6_cellOf_5 (by decide) ?_
    refine lv_icmp_ge (tgt := 19) hx hb dX6_cellOf_7 (by decide) (fun c7 => ?_) (fun c7 => ?_)
    · have hok := k_pos c7 hok
      exact J19  H locs ls hP hD hS (lv_sub hl [] rfl) hok
    · have hok := k_neg c7 hok
      refine lv_aload_n hx hb dX6_cellOf_10 rfl (lv_at hl 0 rfl) ?_
      refine va_get (D := D) (ci := 5) (v := .ref (qW 0)) (C := RX6) (T := TX6) (N := 13) hx hb ht0 niX6 hown hK hP 0 rfl rfl 0 (by decide) (ht0 _ wd110) (fun _ h9 => h9) rfl dX6_cellOf_11 ?_
      refine lv_iload_n hx hb dX6_cellOf_14 rfl (lv_at hl 1 rfl) ?_
      obtain ⟨g15, hok⟩ := gd_some hok
      refine va_iald hx hb hK hP 1 0 rfl rfl (okI_in g15) dX6_cellOf_15 ?_
      refine lv_goto (tgt := 20) hx hb dX6_cellOf_16 (by decide) ?_
      exact J20 (vW_cells x1.toNatClampNeg) H locs ls hP hD hS (lv_sub hl [] rfl) hok
def wsX4_hasDoor : List Cond := .code yX4_hasDoor cX4_hasDoor 6 (some .boolean) :: W0
abbrev wX4_hasDoor (cy : Nat → ClassId) (aH : Nat) (qH : Nat → Nat) (vH : Nat → Int32) (vH_doorOne : Nat → Int32) (vH_doorTwo : Nat → Int32) : va_W := [(aH, oX4 vH qH), (qH 12, rI cy 5 vH_doorOne), (qH 13, rI cy 5 vH_doorTwo)]
set_option maxHeartbeats 4000000 in
set_option maxRecDepth 100000 in
theorem kX4_hasDoor (l : Launch) (D : va_G) (cy : Nat → ClassId) (sz : Nat) (aH : Nat) (qH : Nat → Nat) (vH : Nat → Int32) (vH_doorOne : Nat → Int32) (vH_doorTwo : Nat → Int32) (x1 : Int32) (x2 : Int32) (zr : Int32) (hok : fX4_hasDoor vH vH_doorOne vH_doorTwo x1 x2 = some zr) (A : Nat → Prop) (hAe : va_A (wX4_hasDoor cy aH qH vH vH_doorOne vH_doorTwo) sz = A) : Met l yX4_hasDoor wsX4_hasDoor ({ frames := 0, cells := 0, slots := 0, locals := 0 } : Room) (kPre D cy [.ref aH, .int x1, .int x2] (wX4_hasDoor cy aH qH vH vH_doorOne vH_doorTwo) sz) (kQi D cy zr A (wX4_hasDoor cy aH qH vH vH_doorOne vH_doorTwo)) 0 0 A := by
  refine Met.ofW (cc := cX4_hasDoor) (maxL := 6) (ret := (some .boolean)) (by decide) rfl ?_
  intro p e s m args below meth c s₁ B hml hv
  obtain ⟨rfl, hsz, hP, hK, hD0, hN⟩ := hv
  have hx := B.exec
  have hb := B.bytes
  have hr := B.returns
  have ht0 : ∀ w ∈ W0, w.before _ s = true := fun w h => atoms_spec (ws := wsX4_hasDoor) B.pre w (List.mem_cons_of_mem _ h)
  have hown : s.vm.findClass RX4 = some m.cls := findClass_of_methodNamed B.named
  have hlocks := B.notSynchronized
  subst hsz
  have hD : va_D A (wX4_hasDoor cy aH qH vH vH_doorOne vH_doorTwo) := by rw [← hAe]; exact hD0.self
  have hA : ∀ q : Nat, s.heap.size ≤ q → A q := fun q h => by rw [← hAe]; exact Or.inr h
  have hS : va_S A s.heap s.heap [] := va_S.rf
  have hl := lv_entry ([.ref aH, .int x1, .int x2]) (n := 6) (Nat.le_of_ble_eq_true rfl)
  rw [lg_entry_eq]
  generalize (lg_sl ([.ref aH, .int x1, .int x2]) ++ List.replicate (6 - (lg_sl ([.ref aH, .int x1, .int x2])).length) Slot.unset).toArray = ls at hl ⊢
  have hl : lv_has ls 6 [(0, .ref aH), (1, .int x1), (2, .int x2)] := hl
  generalize hQe : MQ below (kQi D cy zr A (wX4_hasDoor cy aH qH vH vH_doorOne vH_doorTwo)) ([.ref aH, .int x1, .int x2] : List Value).toArray s 0 0 A = Q
  have J87 : ∀ (H : Heap) (locs : List Loc) (ls : Array Slot), va_P D vwCl (wX4_hasDoor cy aH qH vH vH_doorOne vH_doorTwo) H → va_D A (wX4_hasDoor cy aH qH vH vH_doorOne vH_doorTwo) → va_S A s.heap H locs → lv_has ls 6 [] → fX4_hasDoor_J87 = some zr → W p l e ({ frames := 0, cells := 0, slots := 0, locals := 0 } : Room) s m ([.ref aH, .int x1, .int x2] : List Value).toArray below meth c H locs 0 0 Q (F0 m 87 ls []) := by
    intro  H locs ls hP hD hS hl hok
    unfold fX4_hasDoor_J87 at hok
    refine lv_iconst (v := 0) hx hb dX4_hasDoor_87 (by decide) ?_
    cases hok
    subst hQe; exact W.zret hx hb hr rfl (fun t ht hW => ⟨⟨_, (), rfl, rfl, by rw [ht]; exact hP, va_K.moved hW.alike hK, hD⟩, hS.F ht⟩) hS.2.2 dX4_hasDoor_88
  have J79 : ∀ (H : Heap) (locs : List Loc) (ls : Array Slot), va_P D vwCl (wX4_hasDoor cy aH qH vH vH_doorOne vH_doorTwo) H → va_D A (wX4_hasDoor cy aH qH vH vH_doorOne vH_doorTwo) → va_S A s.heap H locs → lv_has ls 6 [] → fX4_hasDoor_J79 = some zr → W p l e ({ frames := 0, cells := 0, slots := 0, locals := 0 } : Room) s m ([.ref aH, .int x1, .int x2] : List Value).toArray below meth c H locs 0 0 Q (F0 m 79 ls []) := by
    intro  H locs ls hP hD hS hl hok
    unfold fX4_hasDoor_J79 at hok
    refine lv_iconst (v := 1) hx hb dX4_hasDoor_79 (by decide) ?_
    cases hok
    subst hQe; exact W.zret hx hb hr rfl (fun t ht hW => ⟨⟨_, (), rfl, rfl, by rw [ht]; exact hP, va_K.moved hW.alike hK, hD⟩, hS.F ht⟩) hS.2.2 dX4_hasDoor_80
  have L2 : ∀ (fuel : Nat) (y3_2 : Int32), ∀ (H : Heap) (locs : List Loc) (ls : Array Slot), va_P D vwCl (wX4_hasDoor cy aH qH vH vH_doorOne vH_doorTwo) H → va_D A (wX4_hasDoor cy aH qH vH vH_doorOne vH_doorTwo) → va_S A s.heap H locs → lv_has ls 6 [(0, .ref aH), (1, .int x1), (2, .int x2), (3, .int y3_2)] → lp (fX4_hasDoor_B2 vH vH_doorOne vH_doorTwo x1 x2) fuel y3_2 = some zr → W p l e ({ frames := 0, cells := 0, slots := 0, locals := 0 } : Room) s m ([.ref aH, .int x1, .int x2] : List Value).toArray below meth c H locs 0 0 Q (F0 m 2 ls []) := by
    intro fuel
    induction fuel with
    | zero => intro y3_2 H locs ls hP hD hS hl hok; exact (lp_0 hok).elim
    | succ fuel ih2 =>
      intro y3_2 H locs ls hP hD hS hl hok
      obtain ⟨y2, hok, hL2, hR2⟩ := lp_step hok
      have J67 : ∀ (y4_67 : Int32) (t0_67 : Int32), ∀ (H : Heap) (locs : List Loc) (ls : Array Slot), va_P D vwCl (wX4_hasDoor cy aH qH vH vH_doorOne vH_doorTwo) H → va_D A (wX4_hasDoor cy aH qH vH vH_doorOne vH_doorTwo) → va_S A s.heap H locs → lv_has ls 6 [(0, .ref aH), (1, .int x1), (2, .int x2), (3, .int y3_2), (4, .int y4_67)] → fX4_hasDoor_J67 y3_2 y4_67 t0_67 = some y2 → W p l e ({ frames := 0, cells := 0, slots := 0, locals := 0 } : Room) s m ([.ref aH, .int x1, .int x2] : List Value).toArray below meth c H locs 0 0 Q (F0 m 67 ls [.int t0_67]) := by
        intro y4_67 t0_67 H locs ls hP hD hS hl hok
        unfold fX4_hasDoor_J67 at hok
        refine lv_istore (lv' := [(5, .int t0_67), (0, .ref aH), (1, .int x1), (2, .int x2), (3, .int y3_2), (4, .int y4_67)]) hx hb dX4_hasDoor_67 hl (by decide) rfl (fun ls hl => ?_)
        refine lv_iload hx hb dX4_hasDoor_69 (lv_at hl 5 rfl) ?_
        refine lv_if_ne (tgt := 79) hx hb dX4_hasDoor_71 (by decide) (fun c71 => ?_) (fun c71 => ?_)
        · have hok := k_neg c71 hok
          obtain ⟨e2, hok, he2⟩ := ex_some hok
          have hok := hok.trans (congrArg some (hL2 _ he2))
          exact J79  H locs ls hP hD hS (lv_sub hl [] rfl) hok
        · have hok := k_pos c71 hok
          refine lv_iload hx hb dX4_hasDoor_74 (lv_at hl 0 rfl) ?_
          refine lv_if_eq (tgt := 81) hx hb dX4_hasDoor_76 (by decide) (fun c76 => ?_) (fun c76 => ?_)
          · have hok := k_pos c76 hok
            refine lv_iinc (v := (y3_2 + 1)) (lv' := [(3, .int (y3_2 + 1)), (5, .int t0_67), (0, .ref aH), (1, .int x1), (2, .int x2), (4, .int y4_67)]) hx hb dX4_hasDoor_81 hl (k := 4) rfl (by first | rfl | decide) (by decide) rfl (fun ls hl => ?_)
            refine lv_goto (tgt := 2) hx hb dX4_hasDoor_84 (by decide) ?_
            exact ih2 (y3_2 + 1) H locs ls hP hD hS (lv_sub hl [2, 3, 4, 0] rfl) (hR2 _ (Option.some.inj hok).symm)
          · have hok := k_neg c76 hok
            obtain ⟨e2, hok, he2⟩ := ex_some hok
            have hok := hok.trans (congrArg some (hL2 _ he2))
            exact J79  H locs ls hP hD hS (lv_sub hl [] rfl) hok
      have J66 : ∀ (y4_66 : Int32), ∀ (H : Heap) (locs : List Loc) (ls : Array Slot), va_P D vwCl (wX4_hasDoor cy aH qH vH vH_doorOne vH_doorTwo) H → va_D A (wX4_hasDoor cy aH qH vH vH_doorOne vH_doorTwo) → va_S A s.heap H locs → lv_has ls 6 [(0, .ref aH), (1, .int x1), (2, .int x2), (3, .int y3_2), (4, .int y4_66)] → fX4_hasDoor_J66 y3_2 y4_66 = some y2 → W p l e ({ frames := 0, cells := 0, slots := 0, locals := 0 } : Room) s m ([.ref aH, .int x1, .int x2] : List Value).toArray below meth c H locs 0 0 Q (F0 m 66 ls []) := by
        intro y4_66 H locs ls hP hD hS hl hok
        unfold fX4_hasDoor_J66 at hok
        refine lv_iconst (v := 0) hx hb dX4_hasDoor_66 (by decide) ?_
        exact J67 y4_66 (0 : Int32) H locs ls hP hD hS (lv_sub hl [0, 1, 2, 3, 4] rfl) hok
      have J40 : ∀ (t0_40 : Int32), ∀ (H : Heap) (locs : List Loc) (ls : Array Slot), va_P D vwCl (wX4_hasDoor cy aH qH vH vH_doorOne vH_doorTwo) H → va_D A (wX4_hasDoor cy aH qH vH vH_doorOne vH_doorTwo) → va_S A s.heap H locs → lv_has ls 6 [(0, .ref aH), (1, .int x1), (2, .int x2), (3, .int y3_2)] → fX4_hasDoor_J40 vH_doorOne vH_doorTwo x1 x2 y3_2 t0_40 = some y2 → W p l e ({ frames := 0, cells := 0, slots := 0, locals := 0 } : Room) s m ([.ref aH, .int x1, .int x2] : List Value).toArray below meth c H locs 0 0 Q (F0 m 40 ls [.int t0_40]) := by
        intro t0_40 H locs ls hP hD hS hl hok
        unfold fX4_hasDoor_J40 at hok
        refine lv_istore (lv' := [(4, .int t0_40), (0, .ref aH), (1, .int x1), (2, .int x2), (3, .int y3_2)]) hx hb dX4_hasDoor_40 hl (by decide) rfl (fun ls hl => ?_)
        refine lv_aload_n hx hb dX4_hasDoor_42 rfl (lv_at hl 1 rfl) ?_
        refine va_get (D := D) (ci := 3) (v := .ref (qH 12)) (C := RX4) (T := TX4) (N := 20) hx hb ht0 niX4 hown hK hP 0 rfl rfl 12 (by decide) (ht0 _ wd159) (fun _ h9 => h9) rfl dX4_hasDoor_43 ?_
        refine lv_iload_n hx hb dX4_hasDoor_46 rfl (lv_at hl 4 rfl) ?_
        obtain ⟨g47, hok⟩ := gd_some hok
        refine va_iald hx hb hK hP 1 0 rfl rfl (okI_in g47) dX4_hasDoor_47 ?_
        refine lv_iload_n hx hb dX4_hasDoor_48 rfl (lv_at hl 3 rfl) ?_
        refine lv_icmp_ne (tgt := 66) hx hb dX4_hasDoor_49 (by decide) (fun c49 => ?_) (fun c49 => ?_)
        · have hok := k_neg c49 hok
          exact J66 t0_40 H locs ls hP hD hS (lv_sub hl [1, 2, 3, 4, 0] rfl) hok
        · have hok := k_pos c49 hok
          refine lv_aload_n hx hb dX4_hasDoor_52 rfl (lv_at hl 1 rfl) ?_
          refine va_get (D := D) (ci := 3) (v := .ref (qH 13)) (C := RX4) (T := TX4) (N := 20) hx hb ht0 niX4 hown hK hP 0 rfl rfl 13 (by decide) (ht0 _ wd160) (fun _ h9 => h9) rfl dX4_hasDoor_53 ?_
          refine lv_iload_n hx hb dX4_hasDoor_56 rfl (lv_at hl 4 rfl) ?_
          obtain ⟨g57, hok⟩ := gd_some hok
          refine va_iald hx hb hK hP 2 0 rfl rfl (okI_in g57) dX4_hasDoor_57 ?_
          refine lv_iload_n hx hb dX4_hasDoor_58 rfl (lv_at hl 2 rfl) ?_
          refine lv_icmp_ne (tgt := 66) hx hb dX4_hasDoor_59 (by decide) (fun c59 => ?_) (fun c59 => ?_)
          · have hok := k_neg c59 hok
            exact J66 t0_40 H locs ls hP hD hS (lv_sub hl [1, 2, 3, 4, 0] rfl) hok
          · have hok := k_pos c59 hok
            refine lv_iconst (v := 1) hx hb dX4_hasDoor_62 (by decide) ?_
            refine lv_goto (tgt := 67) hx hb dX4_hasDoor_63 (by decide) ?_
            exact J67 t0_40 (1 : Int32) H locs ls hP hD hS (lv_sub hl [1, 2, 3, 4, 0] rfl) hok
      have J39 : ∀ (H : Heap) (locs : List Loc) (ls : Array Slot), va_P D vwCl (wX4_hasDoor cy aH qH vH vH_doorOne vH_doorTwo) H → va_D A (wX4_hasDoor cy aH qH vH vH_doorOne vH_doorTwo) → va_S A s.heap H locs → lv_has ls 6 [(0, .ref aH), (1, .int x1), (2, .int x2), (3, .int y3_2)] → fX4_hasDoor_J39 vH_doorOne vH_doorTwo x1 x2 y3_2 = some y2 → W p l e ({ frames := 0, cells := 0, slots := 0, locals := 0 } : Room) s m ([.ref aH, .int x1, .int x2] : List Value).toArray below meth c H locs 0 0 Q (F0 m 39 ls []) := by
        intro  H locs ls hP hD hS hl hok
        unfold fX4_hasDoor_J39 at hok
        refine lv_iconst (v := 0) hx hb dX4_hasDoor_39 (by decide) ?_
        exact J40 (0 : Int32) H locs ls hP hD hS (lv_sub hl [0, 1, 2, 3] rfl) hok
      unfold fX4_hasDoor_B2 at hok
      refine lv_iload_n hx hb dX4_hasDoor_2 rfl (lv_at hl 3 rfl) ?_
      refine lv_aload_n hx hb dX4_hasDoor_3 rfl (lv_at hl 0 rfl) ?_
      refine va_get (D := D) (ci := 3) (v := .int (vH 4)) (C := RX4) (T := TX4) (N := 20) hx hb ht0 niX4 hown hK hP 0 rfl rfl 4 (by decide) (ht0 _ wd161) (fun _ h9 => h9) rfl dX4_hasDoor_4 ?_
      refine lv_icmp_ge (tgt := 87) hx hb dX4_hasDoor_7 (by decide) (fun c7 => ?_) (fun c7 => ?_)
      · have hok := k_pos c7 hok
        obtain ⟨e2, hok, he2⟩ := ex_some hok
        have hok := hok.trans (congrArg some (hL2 _ he2))
        exact J87  H locs ls hP hD hS (lv_sub hl [] rfl) hok
      · have hok := k_neg c7 hok
        refine lv_iload_n hx hb dX4_hasDoor_10 rfl (lv_at hl 3 rfl) ?_
        refine lv_iconst (v := 5) hx hb dX4_hasDoor_11 (by decide) ?_
        refine lv_icmp_ge (tgt := 87) hx hb dX4_hasDoor_12 (by decide) (fun c12 => ?_) (fun c12 => ?_)
        · have hok := k_pos c12 hok
          obtain ⟨e2, hok, he2⟩ := ex_some hok
          have hok := hok.trans (congrArg some (hL2 _ he2))
          exact J87  H locs ls hP hD hS (lv_sub hl [] rfl) hok
        · have hok := k_neg c12 hok
          refine lv_aload_n hx hb dX4_hasDoor_15 rfl (lv_at hl 0 rfl) ?_
          refine va_get (D := D) (ci := 3) (v := .ref (qH 12)) (C := RX4) (T := TX4) (N := 20) hx hb ht0 niX4 hown hK hP 0 rfl rfl 12 (by decide) (ht0 _ wd159) (fun _ h9 => h9) rfl dX4_hasDoor_16 ?_
          refine lv_iload_n hx hb dX4_hasDoor_19 rfl (lv_at hl 3 rfl) ?_
          obtain ⟨g20, hok⟩ := gd_some hok
          refine va_iald hx hb hK hP 1 0 rfl rfl (okI_in g20) dX4_hasDoor_20 ?_
          refine lv_iload_n hx hb dX4_hasDoor_21 rfl (lv_at hl 1 rfl) ?_
          refine lv_icmp_ne (tgt := 39) hx hb dX4_hasDoor_22 (by decide) (fun c22 => ?_) (fun c22 => ?_)
          · have hok := k_neg c22 hok
            exact J39  H locs ls hP hD hS (lv_sub hl [0, 1, 2, 3] rfl) hok
          · have hok := k_pos c22 hok
            refine lv_aload_n hx hb dX4_hasDoor_25 rfl (lv_at hl 0 rfl) ?_
            refine va_get (D := D) (ci := 3) (v := .ref (qH 13)) (C := RX4) (T := TX4) (N := 20) hx hb ht0 niX4 hown hK hP 0 rfl rfl 13 (by decide) (ht0 _ wd160) (fun _ h9 => h9) rfl dX4_hasDoor_26 ?_
            refine lv_iload_n hx hb dX4_hasDoor_29 rfl (lv_at hl 3 rfl) ?_
            obtain ⟨g30, hok⟩ := gd_some hok
            refine va_iald hx hb hK hP 2 0 rfl rfl (okI_in g30) dX4_hasDoor_30 ?_
            refine lv_iload_n hx hb dX4_hasDoor_31 rfl (lv_at hl 2 rfl) ?_
            refine lv_icmp_ne (tgt := 39) hx hb dX4_hasDoor_32 (by decide) (fun c32 => ?_) (fun c32 => ?_)
            · have hok := k_neg c32 hok
              exact J39  H locs ls hP hD hS (lv_sub hl [0, 1, 2, 3] rfl) hok
            · have hok := k_pos c32 hok
              refine lv_iconst (v := 1) hx hb dX4_hasDoor_35 (by decide) ?_
              refine lv_goto (tgt := 40) hx hb dX4_hasDoor_36 (by decide) ?_
              exact J40 (1 : Int32) H locs ls hP hD hS (lv_sub hl [0, 1, 2, 3] rfl) hok
  unfold fX4_hasDoor at hok
  obtain ⟨H, hH⟩ : ∃ H, H = s.heap := ⟨_, rfl⟩
  obtain ⟨locs, hlc⟩ : ∃ x : List Loc, x = [] := ⟨_, rfl⟩
  have hP : va_P D vwCl (wX4_hasDoor cy aH qH vH vH_doorOne vH_doorTwo) H := by rw [hH]; exact hP
  have hS : va_S A s.heap H locs := by rw [hH, hlc]; exact hS
  rw [show W p l e _ s m _ below meth c s.heap [] = W p l e _ s m _ below meth c H locs from by rw [hH, hlc]]
  refine lv_iconst (v := 0) hx hb dX4_hasDoor_0 (by decide) ?_
  refine lv_istore_n (lv' := [(3, .int 0), (0, .ref aH), (1, .int x1), (2, .int x2)]) hx hb dX4_hasDoor_1 rfl hl (by decide) rfl (fun ls hl => ?_)
  exact L2 5000 (0 : Int32) H locs ls hP hD hS (lv_sub hl [1, 2, 3, 0] rfl) hok
def wsX6_atDoor : List Cond := .code yX6_atDoor cX6_atDoor 3 (some .boolean) :: W0
abbrev wX6_atDoor (cy : Nat → ClassId) (aW : Nat) (qW : Nat → Nat) (aH : Nat) (qH : Nat → Nat) (fvW_4 : Nat) (vW : Nat → Int32) (vW_cells : Nat → Int32) (vH : Nat → Int32) (vH_doorOne : Nat → Int32) (vH_doorTwo : Nat → Int32) : va_W := [(aW, oX6 vW qW fvW_4), (qW 0, rI cy 7 vW_cells), (aH, oX4 vH qH), (qH 12, rI cy 5 vH_doorOne), (qH 13, rI cy 5 vH_doorTwo)]
set_option maxHeartbeats 4000000 in
set_option maxRecDepth 100000 in
theorem kX6_atDoor (l : Launch) (D : va_G) (cy : Nat → ClassId) (sz : Nat) (aW : Nat) (qW : Nat → Nat) (aH : Nat) (qH : Nat → Nat) (vW : Nat → Int32) (vW_cells : Nat → Int32) (vH : Nat → Int32) (vH_doorOne : Nat → Int32) (vH_doorTwo : Nat → Int32) (x1 : Int32) (x2 : Int32) (zr : Int32) (hok : fX6_atDoor vW vW_cells vH vH_doorOne vH_doorTwo x1 x2 = some zr) (A : Nat → Prop) (hAe : va_A (wX6_atDoor cy aW qW aH qH aH vW vW_cells vH vH_doorOne vH_doorTwo) sz = A) : Met l yX6_atDoor wsX6_atDoor ({ frames := 1, cells := 0, slots := 0, locals := 25 } : Room) (kPre D cy [.ref aW, .int x1, .int x2] (wX6_atDoor cy aW qW aH qH aH vW vW_cells vH vH_doorOne vH_doorTwo) sz) (kQi D cy zr A (wX6_atDoor cy aW qW aH qH aH vW vW_cells vH vH_doorOne vH_doorTwo)) 0 0 A := by
  refine Met.ofW (cc := cX6_atDoor) (maxL := 3) (ret := (some .boolean)) (by decide) rfl ?_
  intro p e s m args below meth c s₁ B hml hv
  obtain ⟨rfl, hsz, hP, hK, hD0, hN⟩ := hv
  have hx := B.exec
  have hb := B.bytes
  have hr := B.returns
  have ht0 : ∀ w ∈ W0, w.before _ s = true := fun w h => atoms_spec (ws := wsX6_atDoor) B.pre w (List.mem_cons_of_mem _ h)
  have hown : s.vm.findClass RX6 = some m.cls := findClass_of_methodNamed B.named
  have hlocks := B.notSynchronized
  subst hsz
  have hD : va_D A (wX6_atDoor cy aW qW aH qH aH vW vW_cells vH vH_doorOne vH_doorTwo) := by rw [← hAe]; exact hD0.self
  have hA : ∀ q : Nat, s.heap.size ≤ q → A q := fun q h => by rw [← hAe]; exact Or.inr h
  have hS : va_S A s.heap s.heap [] := va_S.rf
  have hl := lv_entry ([.ref aW, .int x1, .int x2]) (n := 3) (Nat.le_of_ble_eq_true rfl)
  rw [lg_entry_eq]
  generalize (lg_sl ([.ref aW, .int x1, .int x2]) ++ List.replicate (3 - (lg_sl ([.ref aW, .int x1, .int x2])).length) Slot.unset).toArray = ls at hl ⊢
  have hl : lv_has ls 3 [(0, .ref aW), (1, .int x1), (2, .int x2)] := hl
  unfold fX6_atDoor at hok
  obtain ⟨H, hH⟩ : ∃ H, H = s.heap := ⟨_, rfl⟩
  obtain ⟨locs, hlc⟩ : ∃ x : List Loc, x = [] := ⟨_, rfl⟩
  have hP : va_P D vwCl (wX6_atDoor cy aW qW aH qH aH vW vW_cells vH vH_doorOne vH_doorTwo) H := by rw [hH]; exact hP
  have hS : va_S A s.heap H locs := by rw [hH, hlc]; exact hS
  rw [show W p l e _ s m _ below meth c s.heap [] = W p l e _ s m _ below meth c H locs from by rw [hH, hlc]]
  refine lv_aload_n hx hb dX6_atDoor_0 rfl (lv_at hl 0 rfl) ?_
  refine va_get (D := D) (ci := 5) (v := .ref aH) (C := RX6) (T := TX6) (N := 13) hx hb ht0 niX6 hown hK hP 0 rfl rfl 4 (by decide) (ht0 _ wd101) (fun _ h9 => h9) rfl dX6_atDoor_1 ?_
  refine lv_aload_n hx hb dX6_atDoor_4 rfl (lv_at hl 0 rfl) ?_
  refine lv_iload_n hx hb dX6_atDoor_5 rfl (lv_at hl 1 rfl) ?_
  obtain ⟨r6, hc6, hok⟩ := k_bind hok
  refine kCi (wc := (wX6_cellOf cy aW qW aH aH vW vW_cells)) (wc2 := (wX6_cellOf cy aW qW aH aH vW vW_cells)) (wr := [(aH, oX4 vH qH), (qH 12, rI cy 5 vH_doorOne), (qH 13, rI cy 5 vH_doorTwo)]) (ws2 := (wX6_atDoor cy aW qW aH qH aH vW vW_cells vH vH_doorOne vH_doorTwo)) (kRunV (As := [.int x1]) (rest := [.ref aH]) ⟨hx, hb, hml, hown, ht0⟩ (kX6_cellOf l D cy _ aW qW aH vW vW_cells x1 r6 hc6 _ rfl) (cwV 1 ht0 (gV wd162 wd163 wd164 wd114 wd165) rfl rfl rfl (by decide +kernel) ⟨Nat.le_of_ble_eq_true rfl, Nat.le_of_ble_eq_true rfl⟩) hK hN hP hD [0, 1] rfl (by decide) 0 5 rfl rfl rfl hl.1 rfl (Nat.le_of_ble_eq_true rfl) dX6_atDoor_6 ⟨Nat.zero_le _, Nat.zero_le _⟩) hP hD hS hA [0, 1] [2, 3, 4] rfl rfl (by decide) (by decide) [3, 4, 0, 1, 2] (by decide) rfl rfl (fun H locs hP hD hS => ?_)
  refine lv_aload_n hx hb dX6_atDoor_9 rfl (lv_at hl 0 rfl) ?_
  refine lv_iload_n hx hb dX6_atDoor_10 rfl (lv_at hl 2 rfl) ?_
  obtain ⟨r11, hc11, hok⟩ := k_bind hok
  refine kCi (wc := (wX6_cellOf cy aW qW aH aH vW vW_cells)) (wc2 := (wX6_cellOf cy aW qW aH aH vW vW_cells)) (wr := [(aH, oX4 vH qH), (qH 12, rI cy 5 vH_doorOne), (qH 13, rI cy 5 vH_doorTwo)]) (ws2 := (wX6_atDoor cy aW qW aH qH aH vW vW_cells vH vH_doorOne vH_doorTwo)) (kRunV (As := [.int x2]) (rest := [.int r6, .ref aH]) ⟨hx, hb, hml, hown, ht0⟩ (kX6_cellOf l D cy _ aW qW aH vW vW_cells x2 r11 hc11 _ rfl) (cwV 1 ht0 (gV wd162 wd163 wd164 wd114 wd165) rfl rfl rfl (by decide +kernel) ⟨Nat.le_of_ble_eq_true rfl, Nat.le_of_ble_eq_true rfl⟩) hK hN hP hD [0, 1] rfl (by decide) 0 5 rfl rfl rfl hl.1 rfl (Nat.le_of_ble_eq_true rfl) dX6_atDoor_11 ⟨Nat.zero_le _, Nat.zero_le _⟩) hP hD hS hA [0, 1] [2, 3, 4] rfl rfl (by decide) (by decide) [3, 4, 0, 1, 2] (by decide) rfl rfl (fun H locs hP hD hS => ?_)
  obtain ⟨r14, hc14, hok⟩ := k_bind hok
  refine kCi (wc := (wX4_hasDoor cy aH qH vH vH_doorOne vH_doorTwo)) (wc2 := (wX4_hasDoor cy aH qH vH vH_doorOne vH_doorTwo)) (wr := [(aW, oX6 vW qW aH), (qW 0, rI cy 7 vW_cells)]) (ws2 := (wX6_atDoor cy aW qW aH qH aH vW vW_cells vH vH_doorOne vH_doorTwo)) (kRunV (As := [.int r6, .int r11]) (rest := []) ⟨hx, hb, hml, hown, ht0⟩ (kX4_hasDoor l D cy _ aH qH vH vH_doorOne vH_doorTwo r6 r11 r14 hc14 _ rfl) (cwV 2 ht0 (gV wd166 wd167 wd168 wd9 wd169) rfl rfl rfl (by decide +kernel) ⟨Nat.le_of_ble_eq_true rfl, Nat.le_of_ble_eq_true rfl⟩) hK hN hP hD [2, 3, 4] rfl (by decide) 2 3 rfl rfl rfl hl.1 rfl (Nat.le_of_ble_eq_true rfl) dX6_atDoor_14 ⟨Nat.zero_le _, Nat.zero_le _⟩) hP hD hS hA [2, 3, 4] [0, 1] rfl rfl (by decide) (by decide) [0, 1, 2, 3, 4] (by decide) rfl rfl (fun H locs hP hD hS => ?_)
  obtain ⟨g17, hok⟩ := gd_some hok
  cases hok
  exact W.zret hx hb hr (isB_nar g17) (fun t ht hW => ⟨⟨_, (), rfl, rfl, by rw [ht]; exact hP, va_K.moved hW.alike hK, hD⟩, hS.F ht⟩) hS.2.2 dX6_atDoor_17
def wsX3_isReached : List Cond := .code yX3_isReached cX3_isReached 4 (some .boolean) :: W0
abbrev wX3_isReached (cy : Nat → ClassId) (aG : Nat) (qG : Nat → Nat) (qW : Nat → Nat) (aH : Nat) (qH : Nat → Nat) (fvW_4 : Nat) (vG : Nat → Int32) (vW : Nat → Int32) (vW_cells : Nat → Int32) (vH : Nat → Int32) (vH_doorOne : Nat → Int32) (vH_doorTwo : Nat → Int32) : va_W := [(aG, oX3 vG qG), (qG 0, oX6 vW qW fvW_4), (qW 0, rI cy 7 vW_cells), (aH, oX4 vH qH), (qH 12, rI cy 5 vH_doorOne), (qH 13, rI cy 5 vH_doorTwo)]
set_option maxHeartbeats 4000000 in
set_option maxRecDepth 100000 in
theorem kX3_isReached (l : Launch) (D : va_G) (cy : Nat → ClassId) (sz : Nat) (aG : Nat) (qG : Nat → Nat) (qW : Nat → Nat) (aH : Nat) (qH : Nat → Nat) (vG : Nat → Int32) (vW : Nat → Int32) (vW_cells : Nat → Int32) (vH : Nat → Int32) (vH_doorOne : Nat → Int32) (vH_doorTwo : Nat → Int32) (x1 : Int32) (x2 : Int32) (x3 : Int32) (zr : Int32) (hok : fX3_isReached vG vW vW_cells vH vH_doorOne vH_doorTwo x1 x2 x3 = some zr) (A : Nat → Prop) (hAe : va_A (wX3_isReached cy aG qG qW aH qH aH vG vW vW_cells vH vH_doorOne vH_doorTwo) sz = A) : Met l yX3_isReached wsX3_isReached ({ frames := 2, cells := 0, slots := 0, locals := 47 } : Room) (kPre D cy [.ref aG, .int x1, .int x2, .int x3] (wX3_isReached cy aG qG qW aH qH aH vG vW vW_cells vH vH_doorOne vH_doorTwo) sz) (kQi D cy zr A (wX3_isReached cy aG qG qW aH qH aH vG vW vW_cells vH vH_doorOne vH_doorTwo)) 0 0 A := by
  refine Met.ofW (cc := cX3_isReached) (maxL := 4) (ret := (some .boolean)) (by decide) rfl ?_
  intro p e s m args below meth c s₁ B hml hv
  obtain ⟨rfl, hsz, hP, hK, hD0, hN⟩ := hv
  have hx := B.exec
  have hb := B.bytes
  have hr := B.returns
  have ht0 : ∀ w ∈ W0, w.before _ s = true := fun w h => atoms_spec (ws := wsX3_isReached) B.pre w (List.mem_cons_of_mem _ h)
  have hown : s.vm.findClass RX3 = some m.cls := findClass_of_methodNamed B.named
  have hlocks := B.notSynchronized
  subst hsz
  have hD : va_D A (wX3_isReached cy aG qG qW aH qH aH vG vW vW_cells vH vH_doorOne vH_doorTwo) := by rw [← hAe]; exact hD0.self
  have hA : ∀ q : Nat, s.heap.size ≤ q → A q := fun q h => by rw [← hAe]; exact Or.inr h
  have hS : va_S A s.heap s.heap [] := va_S.rf
  have hl := lv_entry ([.ref aG, .int x1, .int x2, .int x3]) (n := 4) (Nat.le_of_ble_eq_true rfl)
  rw [lg_entry_eq]
  generalize (lg_sl ([.ref aG, .int x1, .int x2, .int x3]) ++ List.replicate (4 - (lg_sl ([.ref aG, .int x1, .int x2, .int x3])).length) Slot.unset).toArray = ls at hl ⊢
  have hl : lv_has ls 4 [(0, .ref aG), (1, .int x1), (2, .int x2), (3, .int x3)] := hl
  generalize hQe : MQ below (kQi D cy zr A (wX3_isReached cy aG qG qW aH qH aH vG vW vW_cells vH vH_doorOne vH_doorTwo)) ([.ref aG, .int x1, .int x2, .int x3] : List Value).toArray s 0 0 A = Q
  have J34 : ∀ (t0_34 : Int32), ∀ (H : Heap) (locs : List Loc) (ls : Array Slot), va_P D vwCl (wX3_isReached cy aG qG qW aH qH aH vG vW vW_cells vH vH_doorOne vH_doorTwo) H → va_D A (wX3_isReached cy aG qG qW aH qH aH vG vW vW_cells vH vH_doorOne vH_doorTwo) → va_S A s.heap H locs → lv_has ls 4 [] → fX3_isReached_J34 t0_34 = some zr → W p l e ({ frames := 2, cells := 0, slots := 0, locals := 47 } : Room) s m ([.ref aG, .int x1, .int x2, .int x3] : List Value).toArray below meth c H locs 0 0 Q (F0 m 34 ls [.int t0_34]) := by
    intro t0_34 H locs ls hP hD hS hl hok
    unfold fX3_isReached_J34 at hok
    obtain ⟨g34, hok⟩ := gd_some hok
    cases hok
    subst hQe; exact W.zret hx hb hr (isB_nar g34) (fun t ht hW => ⟨⟨_, (), rfl, rfl, by rw [ht]; exact hP, va_K.moved hW.alike hK, hD⟩, hS.F ht⟩) hS.2.2 dX3_isReached_34
  unfold fX3_isReached at hok
  obtain ⟨H, hH⟩ : ∃ H, H = s.heap := ⟨_, rfl⟩
  obtain ⟨locs, hlc⟩ : ∃ x : List Loc, x = [] := ⟨_, rfl⟩
  have hP : va_P D vwCl (wX3_isReached cy aG qG qW aH qH aH vG vW vW_cells vH vH_doorOne vH_doorTwo) H := by rw [hH]; exact hP
  have hS : va_S A s.heap H locs := by rw [hH, hlc]; exact hS
  rw [show W p l e _ s m _ below meth c s.heap [] = W p l e _ s m _ below meth c H locs from by rw [hH, hlc]]
  refine lv_iload_n hx hb dX3_isReached_0 rfl (lv_at hl 1 rfl) ?_
  refine lv_iload_n hx hb dX3_isReached_1 rfl (lv_at hl 2 rfl) ?_
  refine lv_icmp_ne (tgt := 25) hx hb dX3_isReached_2 (by decide) (fun c2 => ?_) (fun c2 => ?_)
  · have hok := k_neg c2 hok
    refine lv_aload_n hx hb dX3_isReached_25 rfl (lv_at hl 0 rfl) ?_
    refine va_get (D := D) (ci := 2) (v := .ref (qG 0)) (C := RX3) (T := TX3) (N := 1) hx hb ht0 niX3 hown hK hP 0 rfl rfl 0 (by decide) (ht0 _ wd170) (fun _ h9 => h9) rfl dX3_isReached_26 ?_
    refine lv_iload_n hx hb dX3_isReached_29 rfl (lv_at hl 1 rfl) ?_
    refine lv_iload_n hx hb dX3_isReached_30 rfl (lv_at hl 2 rfl) ?_
    obtain ⟨r31, hc31, hok⟩ := k_bind hok
    refine kCi (wc := (wX6_atDoor cy (qG 0) qW aH qH aH vW vW_cells vH vH_doorOne vH_doorTwo)) (wc2 := (wX6_atDoor cy (qG 0) qW aH qH aH vW vW_cells vH vH_doorOne vH_doorTwo)) (wr := [(aG, oX3 vG qG)]) (ws2 := (wX3_isReached cy aG qG qW aH qH aH vG vW vW_cells vH vH_doorOne vH_doorTwo)) (kRunV (As := [.int x1, .int x2]) (rest := []) ⟨hx, hb, hml, hown, ht0⟩ (kX6_atDoor l D cy _ (qG 0) qW aH qH vW vW_cells vH vH_doorOne vH_doorTwo x1 x2 r31 hc31 _ rfl) (cwV 2 ht0 (gV wd171 wd172 wd173 wd114 wd174) rfl rfl rfl (by decide +kernel) ⟨Nat.le_of_ble_eq_true rfl, Nat.le_of_ble_eq_true rfl⟩) hK hN hP hD [1, 2, 3, 4, 5] rfl (by decide) 1 5 rfl rfl rfl hl.1 rfl (Nat.le_of_ble_eq_true rfl) dX3_isReached_31 ⟨Nat.zero_le _, Nat.zero_le _⟩) hP hD hS hA [1, 2, 3, 4, 5] [0] rfl rfl (by decide) (by decide) [0, 1, 2, 3, 4, 5] (by decide) rfl rfl (fun H locs hP hD hS => ?_)
    exact J34 r31 H locs ls hP hD hS (lv_sub hl [] rfl) hok
  · have hok := k_pos c2 hok
    refine lv_aload_n hx hb dX3_isReached_5 rfl (lv_at hl 0 rfl) ?_
    refine va_get (D := D) (ci := 2) (v := .ref (qG 0)) (C := RX3) (T := TX3) (N := 1) hx hb ht0 niX3 hown hK hP 0 rfl rfl 0 (by decide) (ht0 _ wd170) (fun _ h9 => h9) rfl dX3_isReached_6 ?_
    refine lv_iload_n hx hb dX3_isReached_9 rfl (lv_at hl 1 rfl) ?_
    obtain ⟨r10, hc10, hok⟩ := k_bind hok
    refine kCi (wc := (wX6_cellOf cy (qG 0) qW aH aH vW vW_cells)) (wc2 := (wX6_cellOf cy (qG 0) qW aH aH vW vW_cells)) (wr := [(aG, oX3 vG qG), (aH, oX4 vH qH), (qH 12, rI cy 5 vH_doorOne), (qH 13, rI cy 5 vH_doorTwo)]) (ws2 := (wX3_isReached cy aG qG qW aH qH aH vG vW vW_cells vH vH_doorOne vH_doorTwo)) (kRunV (As := [.int x1]) (rest := []) ⟨hx, hb, hml, hown, ht0⟩ (kX6_cellOf l D cy _ (qG 0) qW aH vW vW_cells x1 r10 hc10 _ rfl) (cwV 1 ht0 (gV wd175 wd163 wd164 wd114 wd165) rfl rfl rfl (by decide +kernel) ⟨Nat.le_of_ble_eq_true rfl, Nat.le_of_ble_eq_true rfl⟩) hK hN hP hD [1, 2] rfl (by decide) 1 5 rfl rfl rfl hl.1 rfl (Nat.le_of_ble_eq_true rfl) dX3_isReached_10 ⟨Nat.zero_le _, Nat.zero_le _⟩) hP hD hS hA [1, 2] [0, 3, 4, 5] rfl rfl (by decide) (by decide) [0, 4, 5, 1, 2, 3] (by decide) rfl rfl (fun H locs hP hD hS => ?_)
    refine lv_iload_n hx hb dX3_isReached_13 rfl (lv_at hl 3 rfl) ?_
    refine lv_icmp_ne (tgt := 21) hx hb dX3_isReached_14 (by decide) (fun c14 => ?_) (fun c14 => ?_)
    · have hok := k_neg c14 hok
      refine lv_iconst (v := 0) hx hb dX3_isReached_21 (by decide) ?_
      refine lv_goto (tgt := 34) hx hb dX3_isReached_22 (by decide) ?_
      exact J34 (0 : Int32) H locs ls hP hD hS (lv_sub hl [] rfl) hok
    · have hok := k_pos c14 hok
      refine lv_iconst (v := 1) hx hb dX3_isReached_17 (by decide) ?_
      refine lv_goto (tgt := 34) hx hb dX3_isReached_18 (by decide) ?_
      exact J34 (1 : Int32) H locs ls hP hD hS (lv_sub hl [] rfl) hok
def wsX3_fewest : List Cond := .code yX3_fewest cX3_fewest 11 (some .int) :: W0
abbrev wX3_fewest (cy : Nat → ClassId) (aG : Nat) (aH : Nat) (aD : Nat) (qD : Nat → Nat) (qH : Nat → Nat) (qG : Nat → Nat) (qW : Nat → Nat) (aH0 : Nat) (fvW_4 : Nat) (vD : Nat → Int32) (vD_now : Nat → Int32) (vH : Nat → Int32) (vH_kinds : Nat → Int32) (vG : Nat → Int32) (vW : Nat → Int32) (vW_who : Nat → Int32) (vW_cells : Nat → Int32) (vH_sorts : Nat → Int32) (vH_next : Nat → Int32) (vW_inFront : Nat → Int32) (vH_sizes : Nat → Int32) (vH_width : Nat → Int32) (vH_doorOne : Nat → Int32) (vH_doorTwo : Nat → Int32) : va_W := [(aD, oX1 vD qD), (qD 0, rI cy 9 vD_now), (aH, oX4 vH qH), (qH 14, rI cy 7 vH_kinds), (aG, oX3 vG qG), (qG 0, oX6 vW qW fvW_4), (qW 1, rI cy 36 vW_who), (qW 0, rI cy 7 vW_cells), (qH 8, rI cy 4 vH_sorts), (qH 10, rI cy 36 vH_next), (qW 2, rI cy 7 vW_inFront), (qH 15, rI cy 7 vH_sizes), (qH 11, rI cy 36 vH_width), (qH 12, rI cy 5 vH_doorOne), (qH 13, rI cy 5 vH_doorTwo)]
set_option maxHeartbeats 4000000 in
set_option maxRecDepth 100000 in
theorem kX3_fewest (l : Launch) (D : va_G) (cy : Nat → ClassId) (sz : Nat) (aG : Nat) (aH : Nat) (aD : Nat) (qD : Nat → Nat) (qH : Nat → Nat) (qG : Nat → Nat) (qW : Nat → Nat) (aH0 : Nat) (vD : Nat → Int32) (vD_now : Nat → Int32) (vH : Nat → Int32) (vH_kinds : Nat → Int32) (vG : Nat → Int32) (vW : Nat → Int32) (vW_who : Nat → Int32) (vW_cells : Nat → Int32) (vH_sorts : Nat → Int32) (vH_next : Nat → Int32) (vW_inFront : Nat → Int32) (vH_sizes : Nat → Int32) (vH_width : Nat → Int32) (vH_doorOne : Nat → Int32) (vH_doorTwo : Nat → Int32) (x3 : Int32) (x4 : Int32) (x5 : Int32) (x6 : Int32) (zr : Int32) (z_vW : Nat → Int32) (z_vW_who : Nat → Int32) (z_vW_cells : Nat → Int32) (z_vW_inFront : Nat → Int32) (z_aH0 : Nat) (hok : fX3_fewest aH aH0 vD vD_now vH vH_kinds vG vW vW_who vW_cells vH_sorts vH_next vW_inFront vH_sizes vH_width vH_doorOne vH_doorTwo x3 x4 x5 x6 = some (zr, z_vW, z_vW_who, z_vW_cells, z_vW_inFront, z_aH0)) (A : Nat → Prop) (hAe : va_A (wX3_fewest cy aG aH aD qD qH qG qW aH0 aH0 vD vD_now vH vH_kinds vG vW vW_who vW_cells vH_sorts vH_next vW_inFront vH_sizes vH_width vH_doorOne vH_doorTwo) sz = A) : Met l yX3_fewest wsX3_fewest ({ frames := 4, cells := 0, slots := 0, locals := 96 } : Room) (kPre D cy [.ref aG, .ref aH, .ref aD, .int x3, .int x4, .int x5, .int x6] (wX3_fewest cy aG aH aD qD qH qG qW aH0 aH0 vD vD_now vH vH_kinds vG vW vW_who vW_cells vH_sorts vH_next vW_inFront vH_sizes vH_width vH_doorOne vH_doorTwo) sz) (kQi D cy zr A (wX3_fewest cy aG aH aD qD qH qG qW aH0 z_aH0 vD vD_now vH vH_kinds vG z_vW z_vW_who z_vW_cells vH_sorts vH_next z_vW_inFront vH_sizes vH_width vH_doorOne vH_doorTwo)) 0 0 A := by
  refine Met.ofW (cc := cX3_fewest) (maxL := 11) (ret := (some .int)) (by decide) rfl ?_
  intro p e s m args below meth c s₁ B hml hv
  obtain ⟨rfl, hsz, hP, hK, hD0, hN⟩ := hv
  have hx := B.exec
  have hb := B.bytes
  have hr := B.returns
  have ht0 : ∀ w ∈ W0, w.before _ s = true := fun w h => atoms_spec (ws := wsX3_fewest) B.pre w (List.mem_cons_of_mem _ h)
  have hown : s.vm.findClass RX3 = some m.cls := findClass_of_methodNamed B.named
  have hlocks := B.notSynchronized
  subst hsz
  have hD : va_D A (wX3_fewest cy aG aH aD qD qH qG qW aH0 aH0 vD vD_now vH vH_kinds vG vW vW_who vW_cells vH_sorts vH_next vW_inFront vH_sizes vH_width vH_doorOne vH_doorTwo) := by rw [← hAe]; exact hD0.self
  have hA : ∀ q : Nat, s.heap.size ≤ q → A q := fun q h => by rw [← hAe]; exact Or.inr h
  have hS : va_S A s.heap s.heap [] := va_S.rf
  have hl := lv_entry ([.ref aG, .ref aH, .ref aD, .int x3, .int x4, .int x5, .int x6]) (n := 11) (Nat.le_of_ble_eq_true rfl)
  rw [lg_entry_eq]
  generalize (lg_sl ([.ref aG, .ref aH, .ref aD, .int x3, .int x4, .int x5, .int x6]) ++ List.replicate (11 - (lg_sl ([.ref aG, .ref aH, .ref aD, .int x3, .int x4, .int x5, .int x6])).length) Slot.unset).toArray = ls at hl ⊢
  have hl : lv_has ls 11 [(0, .ref aG), (1, .ref aH), (2, .ref aD), (3, .int x3), (4, .int x4), (5, .int x5), (6, .int x6)] := hl
  generalize hQe : MQ below (kQi D cy zr A (wX3_fewest cy aG aH aD qD qH qG qW aH0 z_aH0 vD vD_now vH vH_kinds vG z_vW z_vW_who z_vW_cells vH_sorts vH_next z_vW_inFront vH_sizes vH_width vH_doorOne vH_doorTwo)) ([.ref aG, .ref aH, .ref aD, .int x3, .int x4, .int x5, .int x6] : List Value).toArray s 0 0 A = Q
  have L36 : ∀ (fuel : Nat) (y8_36 : Int32) (y9_36 : Int32) (vW_cells_36 : Nat → Int32) (vW_inFront_36 : Nat → Int32) (vW_who_36 : Nat → Int32) (vW_4_36 : Nat) (vW_36 : Nat → Int32), ∀ (H : Heap) (locs : List Loc) (ls : Array Slot), va_P D vwCl (wX3_fewest cy aG aH aD qD qH qG qW aH0 vW_4_36 vD vD_now vH vH_kinds vG vW_36 vW_who_36 vW_cells_36 vH_sorts vH_next vW_inFront_36 vH_sizes vH_width vH_doorOne vH_doorTwo) H → va_D A (wX3_fewest cy aG aH aD qD qH qG qW aH0 vW_4_36 vD vD_now vH vH_kinds vG vW_36 vW_who_36 vW_cells_36 vH_sorts vH_next vW_inFront_36 vH_sizes vH_width vH_doorOne vH_doorTwo) → va_S A s.heap H locs → lv_has ls 11 [(0, .ref aG), (1, .ref aH), (2, .ref aD), (3, .int x3), (4, .int x4), (5, .int x5), (6, .int x6), (8, .int y8_36), (9, .int y9_36)] → lp (fX3_fewest_B36 aH vD vD_now vH vH_kinds vG vH_sorts vH_next vH_sizes vH_width vH_doorOne vH_doorTwo x3 x4 x5 x6) fuel (y8_36, y9_36, vW_cells_36, vW_inFront_36, vW_who_36, vW_4_36, vW_36) = some (zr, z_vW, z_vW_who, z_vW_cells, z_vW_inFront, z_aH0) → W p l e ({ frames := 4, cells := 0, slots := 0, locals := 96 } : Room) s m ([.ref aG, .ref aH, .ref aD, .int x3, .int x4, .int x5, .int x6] : List Value).toArray below meth c H locs 0 0 Q (F0 m 36 ls []) := by
    intro fuel
    induction fuel with
    | zero => intro y8_36 y9_36 vW_cells_36 vW_inFront_36 vW_who_36 vW_4_36 vW_36 H locs ls hP hD hS hl hok; exact (lp_0 hok).elim
    | succ fuel ih36 =>
      intro y8_36 y9_36 vW_cells_36 vW_inFront_36 vW_who_36 vW_4_36 vW_36 H locs ls hP hD hS hl hok
      obtain ⟨y36, hok, hL36, hR36⟩ := lp_step hok
      have L49 : ∀ (fuel : Nat) (y10_49 : Int32) (vW_cells_49 : Nat → Int32) (vW_inFront_49 : Nat → Int32) (vW_who_49 : Nat → Int32) (vW_4_49 : Nat) (vW_49 : Nat → Int32), ∀ (H : Heap) (locs : List Loc) (ls : Array Slot), va_P D vwCl (wX3_fewest cy aG aH aD qD qH qG qW aH0 vW_4_49 vD vD_now vH vH_kinds vG vW_49 vW_who_49 vW_cells_49 vH_sorts vH_next vW_inFront_49 vH_sizes vH_width vH_doorOne vH_doorTwo) H → va_D A (wX3_fewest cy aG aH aD qD qH qG qW aH0 vW_4_49 vD vD_now vH vH_kinds vG vW_49 vW_who_49 vW_cells_49 vH_sorts vH_next vW_inFront_49 vH_sizes vH_width vH_doorOne vH_doorTwo) → va_S A s.heap H locs → lv_has ls 11 [(0, .ref aG), (1, .ref aH), (2, .ref aD), (3, .int x3), (4, .int x4), (5, .int x5), (6, .int x6), (8, .int y8_36), (9, .int y9_36), (10, .int y10_49)] → lp (fX3_fewest_B49 aH vD vD_now vH vH_kinds vG vH_sorts vH_next vH_sizes vH_width vH_doorOne vH_doorTwo x3 x4 x5 x6 y8_36 y9_36) fuel (y10_49, vW_cells_49, vW_inFront_49, vW_who_49, vW_4_49, vW_49) = some y36 → W p l e ({ frames := 4, cells := 0, slots := 0, locals := 96 } : Room) s m ([.ref aG, .ref aH, .ref aD, .int x3, .int x4, .int x5, .int x6] : List Value).toArray below meth c H locs 0 0 Q (F0 m 49 ls []) := by
        intro fuel
        induction fuel with
        | zero => intro y10_49 vW_cells_49 vW_inFront_49 vW_who_49 vW_4_49 vW_49 H locs ls hP hD hS hl hok; exact (lp_0 hok).elim
        | succ fuel ih49 =>
          intro y10_49 vW_cells_49 vW_inFront_49 vW_who_49 vW_4_49 vW_49 H locs ls hP hD hS hl hok
          obtain ⟨y49, hok, hL49, hR49⟩ := lp_step hok
          have J104 : ∀ (vW_cells_104 : Nat → Int32) (vW_inFront_104 : Nat → Int32) (vW_who_104 : Nat → Int32) (vW_4_104 : Nat) (vW_104 : Nat → Int32), ∀ (H : Heap) (locs : List Loc) (ls : Array Slot), va_P D vwCl (wX3_fewest cy aG aH aD qD qH qG qW aH0 vW_4_104 vD vD_now vH vH_kinds vG vW_104 vW_who_104 vW_cells_104 vH_sorts vH_next vW_inFront_104 vH_sizes vH_width vH_doorOne vH_doorTwo) H → va_D A (wX3_fewest cy aG aH aD qD qH qG qW aH0 vW_4_104 vD vD_now vH vH_kinds vG vW_104 vW_who_104 vW_cells_104 vH_sorts vH_next vW_inFront_104 vH_sizes vH_width vH_doorOne vH_doorTwo) → va_S A s.heap H locs → lv_has ls 11 [(0, .ref aG), (1, .ref aH), (2, .ref aD), (3, .int x3), (4, .int x4), (5, .int x5), (6, .int x6), (8, .int y8_36), (9, .int y9_36), (10, .int y10_49)] → fX3_fewest_J104 y10_49 vW_cells_104 vW_inFront_104 vW_who_104 vW_4_104 vW_104 = some y49 → W p l e ({ frames := 4, cells := 0, slots := 0, locals := 96 } : Room) s m ([.ref aG, .ref aH, .ref aD, .int x3, .int x4, .int x5, .int x6] : List Value).toArray below meth c H locs 0 0 Q (F0 m 104 ls []) := by
            intro vW_cells_104 vW_inFront_104 vW_who_104 vW_4_104 vW_104 H locs ls hP hD hS hl hok
            unfold fX3_fewest_J104 at hok
            refine lv_iinc (v := (y10_49 + 1)) (lv' := [(10, .int (y10_49 + 1)), (0, .ref aG), (1, .ref aH), (2, .ref aD), (3, .int x3), (4, .int x4), (5, .int x5), (6, .int x6), (8, .int y8_36), (9, .int y9_36)]) hx hb dX3_fewest_104 hl (k := 9) rfl (by first | rfl | decide) (by decide) rfl (fun ls hl => ?_)
            refine lv_goto (tgt := 49) hx hb dX3_fewest_107 (by decide) ?_
            exact ih49 (y10_49 + 1) vW_cells_104 vW_inFront_104 vW_who_104 vW_4_104 vW_104 H locs ls hP hD hS (lv_sub hl [1, 2, 3, 4, 5, 6, 7, 8, 9, 0] rfl) (hR49 _ (Option.some.inj hok).symm)
          unfold fX3_fewest_B49 at hok
          try dsimp only at hok
          refine lv_iload hx hb dX3_fewest_49 (lv_at hl 9 rfl) ?_
          refine lv_iload hx hb dX3_fewest_51 (lv_at hl 7 rfl) ?_
          refine lv_icmp_gt (tgt := 110) hx hb dX3_fewest_53 (by decide) (fun c53 => ?_) (fun c53 => ?_)
          · have hok := k_pos c53 hok
            obtain ⟨e49, hok, he49⟩ := ex_some hok
            have hok := hok.trans (congrArg some (hL49 _ he49))
            refine lv_iinc (v := (y9_36 + 1)) (lv' := [(9, .int (y9_36 + 1)), (0, .ref aG), (1, .ref aH), (2, .ref aD), (3, .int x3), (4, .int x4), (5, .int x5), (6, .int x6), (8, .int y8_36), (10, .int y10_49)]) hx hb dX3_fewest_110 hl (k := 8) rfl (by first | rfl | decide) (by decide) rfl (fun ls hl => ?_)
            refine lv_goto (tgt := 36) hx hb dX3_fewest_113 (by decide) ?_
            exact ih36 y8_36 (y9_36 + 1) vW_cells_49 vW_inFront_49 vW_who_49 vW_4_49 vW_49 H locs ls hP hD hS (lv_sub hl [1, 2, 3, 4, 5, 6, 7, 8, 0] rfl) (hR36 _ (Option.some.inj hok).symm)
          · have hok := k_neg c53 hok
            refine lv_iload hx hb dX3_fewest_56 (lv_at hl 9 rfl) ?_
            refine lv_iload hx hb dX3_fewest_58 (lv_at hl 8 rfl) ?_
            refine lv_iload hx hb dX3_fewest_60 (lv_at hl 7 rfl) ?_
            obtain ⟨r62, hc62, hok⟩ := k_bind hok
            refine kCi (wc := (wX3_isOfThese cy )) (wc2 := (wX3_isOfThese cy )) (wr := [(aD, oX1 vD qD), (qD 0, rI cy 9 vD_now), (aH, oX4 vH qH), (qH 14, rI cy 7 vH_kinds), (aG, oX3 vG qG), (qG 0, oX6 vW_49 qW vW_4_49), (qW 1, rI cy 36 vW_who_49), (qW 0, rI cy 7 vW_cells_49), (qH 8, rI cy 4 vH_sorts), (qH 10, rI cy 36 vH_next), (qW 2, rI cy 7 vW_inFront_49), (qH 15, rI cy 7 vH_sizes), (qH 11, rI cy 36 vH_width), (qH 12, rI cy 5 vH_doorOne), (qH 13, rI cy 5 vH_doorTwo)]) (ws2 := (wX3_fewest cy aG aH aD qD qH qG qW aH0 vW_4_49 vD vD_now vH vH_kinds vG vW_49 vW_who_49 vW_cells_49 vH_sorts vH_next vW_inFront_49 vH_sizes vH_width vH_doorOne vH_doorTwo)) (kRunS (As := [.int y10_49, .int y9_36, .int y8_36]) (rest := []) ⟨hx, hb, hml, hown, ht0⟩ (kX3_isOfThese l D cy _ y10_49 y9_36 y8_36 r62 hc62 _ rfl) (va_cwS 3 ht0 (gS wd176 wd177 wd178 wd179) rfl rfl rfl (by decide +kernel) ⟨Nat.le_of_ble_eq_true rfl, Nat.le_of_ble_eq_true rfl⟩) hK hN hP hD [] rfl (by decide) rfl hl.1 rfl (Nat.le_of_ble_eq_true rfl) dX3_fewest_62 ⟨Nat.zero_le _, Nat.zero_le _⟩) hP hD hS hA [] [0, 1, 2, 3, 4, 5, 6, 7, 8, 9, 10, 11, 12, 13, 14] rfl rfl (by decide) (by decide) [0, 1, 2, 3, 4, 5, 6, 7, 8, 9, 10, 11, 12, 13, 14] (by decide) rfl rfl (fun H locs hP hD hS => ?_)
            refine lv_if_eq (tgt := 104) hx hb dX3_fewest_65 (by decide) (fun c65 => ?_) (fun c65 => ?_)
            · have hok := k_pos c65 hok
              exact J104 vW_cells_49 vW_inFront_49 vW_who_49 vW_4_49 vW_49 H locs ls hP hD hS (lv_sub hl [0, 1, 2, 3, 4, 5, 6, 7, 8, 9] rfl) hok
            · have hok := k_neg c65 hok
              refine lv_aload_n hx hb dX3_fewest_68 rfl (lv_at hl 0 rfl) ?_
              refine va_get (D := D) (ci := 2) (v := .ref (qG 0)) (C := RX3) (T := TX3) (N := 1) hx hb ht0 niX3 hown hK hP 4 rfl rfl 0 (by decide) (ht0 _ wd170) (fun _ h9 => h9) rfl dX3_fewest_69 ?_
              refine lv_aload_n hx hb dX3_fewest_72 rfl (lv_at hl 1 rfl) ?_
              refine lv_aload_n hx hb dX3_fewest_73 rfl (lv_at hl 2 rfl) ?_
              refine lv_iload hx hb dX3_fewest_74 (lv_at hl 9 rfl) ?_
              obtain ⟨⟨vW_76, vW_who_76, vW_cells_76⟩, hc76, hok⟩ := k_bind hok
              try dsimp only at hok
              refine kCv (wc := (wX6_start cy (qG 0) aH aD qW vW_4_49 qD qH vW_4_49 vW_49 vD vD_now vW_who_49 vH vH_kinds vW_cells_49 vH_sorts)) (wc2 := (wX6_start cy (qG 0) aH aD qW vW_4_49 qD qH aH vW_76 vD vD_now vW_who_76 vH vH_kinds vW_cells_76 vH_sorts)) (wr := [(aG, oX3 vG qG), (qH 10, rI cy 36 vH_next), (qW 2, rI cy 7 vW_inFront_49), (qH 15, rI cy 7 vH_sizes), (qH 11, rI cy 36 vH_width), (qH 12, rI cy 5 vH_doorOne), (qH 13, rI cy 5 vH_doorTwo)]) (ws2 := (wX3_fewest cy aG aH aD qD qH qG qW aH0 aH vD vD_now vH vH_kinds vG vW_76 vW_who_76 vW_cells_76 vH_sorts vH_next vW_inFront_49 vH_sizes vH_width vH_doorOne vH_doorTwo)) (kRunV (As := [.ref aH, .ref aD, .int y10_49]) (rest := []) ⟨hx, hb, hml, hown, ht0⟩ (kX6_start l D cy _ (qG 0) aH aD qW vW_4_49 qD qH vW_49 vD vD_now vW_who_49 vH vH_kinds vW_cells_49 vH_sorts y10_49 vW_76 vW_who_76 vW_cells_76 hc76 _ rfl) (cwV 3 ht0 (gV wd180 wd181 wd182 wd114 wd183) rfl rfl rfl (by decide +kernel) ⟨Nat.le_of_ble_eq_true rfl, Nat.le_of_ble_eq_true rfl⟩) hK hN hP hD [5, 0, 1, 6, 2, 3, 7, 8] rfl (by decide) 5 5 rfl rfl rfl hl.1 rfl (Nat.le_of_ble_eq_true rfl) dX3_fewest_76 ⟨Nat.zero_le _, Nat.zero_le _⟩) hP hD hS hA [5, 0, 1, 6, 2, 3, 7, 8] [4, 9, 10, 11, 12, 13, 14] rfl rfl (by decide) (by decide) [8, 9, 11, 12, 0, 7, 10, 13, 14, 1, 2, 3, 4, 5, 6] (by decide) rfl rfl (fun H locs hP hD hS => ?_)
              refine lv_aload_n hx hb dX3_fewest_79 rfl (lv_at hl 0 rfl) ?_
              refine va_get (D := D) (ci := 2) (v := .ref (qG 0)) (C := RX3) (T := TX3) (N := 1) hx hb ht0 niX3 hown hK hP 4 rfl rfl 0 (by decide) (ht0 _ wd170) (fun _ h9 => h9) rfl dX3_fewest_80 ?_
              refine lv_iload hx hb dX3_fewest_83 (lv_at hl 6 rfl) ?_
              obtain ⟨⟨r85, vW_85, vW_cells_85, vW_who_85, vW_inFront_85⟩, hc85, hok⟩ := k_bind hok
              try dsimp only at hok
              refine kCi (wc := (wX6_goOn cy (qG 0) qW aH qH aH vW_76 vH vW_cells_76 vH_next vW_who_76 vW_inFront_49 vH_sizes vH_width vH_kinds)) (wc2 := (wX6_goOn cy (qG 0) qW aH qH aH vW_85 vH vW_cells_85 vH_next vW_who_85 vW_inFront_85 vH_sizes vH_width vH_kinds)) (wr := [(aD, oX1 vD qD), (qD 0, rI cy 9 vD_now), (aG, oX3 vG qG), (qH 8, rI cy 4 vH_sorts), (qH 12, rI cy 5 vH_doorOne), (qH 13, rI cy 5 vH_doorTwo)]) (ws2 := (wX3_fewest cy aG aH aD qD qH qG qW aH0 aH vD vD_now vH vH_kinds vG vW_85 vW_who_85 vW_cells_85 vH_sorts vH_next vW_inFront_85 vH_sizes vH_width vH_doorOne vH_doorTwo)) (kRunV (As := [.int x6]) (rest := []) ⟨hx, hb, hml, hown, ht0⟩ (kX6_goOn l D cy _ (qG 0) qW aH qH vW_76 vH vW_cells_76 vH_next vW_who_76 vW_inFront_49 vH_sizes vH_width vH_kinds x6 r85 vW_85 vW_cells_85 vW_who_85 vW_inFront_85 hc85 _ rfl) (cwV 1 ht0 (gV wd184 wd185 wd186 wd114 wd187) rfl rfl rfl (by decide +kernel) ⟨Nat.le_of_ble_eq_true rfl, Nat.le_of_ble_eq_true rfl⟩) hK hN hP hD [5, 2, 7, 9, 6, 10, 11, 12, 3] rfl (by decide) 5 5 rfl rfl rfl hl.1 rfl (Nat.le_of_ble_eq_true rfl) dX3_fewest_85 ⟨Nat.zero_le _, Nat.zero_le _⟩) hP hD hS hA [5, 2, 7, 9, 6, 10, 11, 12, 3] [0, 1, 4, 8, 13, 14] rfl rfl (by decide) (by decide) [0, 1, 7, 14, 2, 6, 10, 8, 3, 9, 11, 12, 13, 4, 5] (by decide) rfl rfl (fun H locs hP hD hS => ?_)
              refine lv_pop hx hb dX3_fewest_88 rfl ?_
              refine lv_aload_n hx hb dX3_fewest_89 rfl (lv_at hl 0 rfl) ?_
              refine lv_iload_n hx hb dX3_fewest_90 rfl (lv_at hl 3 rfl) ?_
              refine lv_iload hx hb dX3_fewest_91 (lv_at hl 4 rfl) ?_
              refine lv_iload hx hb dX3_fewest_93 (lv_at hl 5 rfl) ?_
              obtain ⟨r95, hc95, hok⟩ := k_bind hok
              refine kCi (wc := (wX3_isReached cy aG qG qW aH qH aH vG vW_85 vW_cells_85 vH vH_doorOne vH_doorTwo)) (wc2 := (wX3_isReached cy aG qG qW aH qH aH vG vW_85 vW_cells_85 vH vH_doorOne vH_doorTwo)) (wr := [(aD, oX1 vD qD), (qD 0, rI cy 9 vD_now), (qH 14, rI cy 7 vH_kinds), (qW 1, rI cy 36 vW_who_85), (qH 8, rI cy 4 vH_sorts), (qH 10, rI cy 36 vH_next), (qW 2, rI cy 7 vW_inFront_85), (qH 15, rI cy 7 vH_sizes), (qH 11, rI cy 36 vH_width)]) (ws2 := (wX3_fewest cy aG aH aD qD qH qG qW aH0 aH vD vD_now vH vH_kinds vG vW_85 vW_who_85 vW_cells_85 vH_sorts vH_next vW_inFront_85 vH_sizes vH_width vH_doorOne vH_doorTwo)) (kRunV (As := [.int x3, .int x4, .int x5]) (rest := []) ⟨hx, hb, hml, hown, ht0⟩ (kX3_isReached l D cy _ aG qG qW aH qH vG vW_85 vW_cells_85 vH vH_doorOne vH_doorTwo x3 x4 x5 r95 hc95 _ rfl) (cwV 3 ht0 (gV wd188 wd189 wd190 wd178 wd191) rfl rfl rfl (by decide +kernel) ⟨Nat.le_of_ble_eq_true rfl, Nat.le_of_ble_eq_true rfl⟩) hK hN hP hD [4, 5, 7, 2, 13, 14] rfl (by decide) 4 2 rfl rfl rfl hl.1 rfl (Nat.le_of_ble_eq_true rfl) dX3_fewest_95 ⟨Nat.zero_le _, Nat.zero_le _⟩) hP hD hS hA [4, 5, 7, 2, 13, 14] [0, 1, 3, 6, 8, 9, 10, 11, 12] rfl rfl (by decide) (by decide) [0, 1, 12, 2, 9, 10, 3, 11, 4, 5, 6, 7, 8, 13, 14] (by decide) rfl rfl (fun H locs hP hD hS => ?_)
              refine lv_if_eq (tgt := 104) hx hb dX3_fewest_98 (by decide) (fun c98 => ?_) (fun c98 => ?_)
              · have hok := k_pos c98 hok
                exact J104 vW_cells_85 vW_inFront_85 vW_who_85 aH vW_85 H locs ls hP hD hS (lv_sub hl [0, 1, 2, 3, 4, 5, 6, 7, 8, 9] rfl) hok
              · have hok := k_neg c98 hok
                obtain ⟨e49, hok, he49⟩ := ex_some hok
                have hok := hok.trans (congrArg some (hL49 _ he49))
                obtain ⟨e36, hok, he36⟩ := ex_some hok
                have hok := hok.trans (congrArg some (hL36 _ he36))
                refine lv_iload hx hb dX3_fewest_101 (lv_at hl 9 rfl) ?_
                cases hok
                subst hQe; exact W.iret hx hb hr (fun t ht hW => ⟨⟨_, (), rfl, rfl, by rw [ht]; exact hP, va_K.moved hW.alike hK, hD⟩, hS.F ht⟩) hS.2.2 dX3_fewest_103
      unfold fX3_fewest_B36 at hok
      try dsimp only at hok
      refine lv_iload hx hb dX3_fewest_36 (lv_at hl 8 rfl) ?_
      refine lv_iload hx hb dX3_fewest_38 (lv_at hl 7 rfl) ?_
      obtain ⟨r40, hc40, hok⟩ := k_bind hok
      refine kCi (wc := (wJ6_bitCount_0f7a4 cy )) (wc2 := (wJ6_bitCount_0f7a4 cy )) (wr := [(aD, oX1 vD qD), (qD 0, rI cy 9 vD_now), (aH, oX4 vH qH), (qH 14, rI cy 7 vH_kinds), (aG, oX3 vG qG), (qG 0, oX6 vW_36 qW vW_4_36), (qW 1, rI cy 36 vW_who_36), (qW 0, rI cy 7 vW_cells_36), (qH 8, rI cy 4 vH_sorts), (qH 10, rI cy 36 vH_next), (qW 2, rI cy 7 vW_inFront_36), (qH 15, rI cy 7 vH_sizes), (qH 11, rI cy 36 vH_width), (qH 12, rI cy 5 vH_doorOne), (qH 13, rI cy 5 vH_doorTwo)]) (ws2 := (wX3_fewest cy aG aH aD qD qH qG qW aH0 vW_4_36 vD vD_now vH vH_kinds vG vW_36 vW_who_36 vW_cells_36 vH_sorts vH_next vW_inFront_36 vH_sizes vH_width vH_doorOne vH_doorTwo)) (kRunS (As := [.int y8_36]) (rest := [.int y9_36]) ⟨hx, hb, hml, hown, ht0⟩ (kJ6_bitCount_0f7a4 l D cy _ y8_36 r40 hc40 _ rfl) (va_cwS 1 ht0 (gS wd88 wd89 wd90 wd91) rfl rfl rfl (by decide +kernel) ⟨Nat.le_of_ble_eq_true rfl, Nat.le_of_ble_eq_true rfl⟩) hK hN hP hD [] rfl (by decide) rfl hl.1 rfl (Nat.le_of_ble_eq_true rfl) dX3_fewest_40 ⟨Nat.zero_le _, Nat.zero_le _⟩) hP hD hS hA [] [0, 1, 2, 3, 4, 5, 6, 7, 8, 9, 10, 11, 12, 13, 14] rfl rfl (by decide) (by decide) [0, 1, 2, 3, 4, 5, 6, 7, 8, 9, 10, 11, 12, 13, 14] (by decide) rfl rfl (fun H locs hP hD hS => ?_)
      refine lv_icmp_gt (tgt := 116) hx hb dX3_fewest_43 (by decide) (fun c43 => ?_) (fun c43 => ?_)
      · have hok := k_pos c43 hok
        obtain ⟨e36, hok, he36⟩ := ex_some hok
        have hok := hok.trans (congrArg some (hL36 _ he36))
        refine lv_bipush (v := -2) hx hb dX3_fewest_116 (by decide) ?_
        cases hok
        subst hQe; exact W.iret hx hb hr (fun t ht hW => ⟨⟨_, (), rfl, rfl, by rw [ht]; exact hP, va_K.moved hW.alike hK, hD⟩, hS.F ht⟩) hS.2.2 dX3_fewest_118
      · have hok := k_neg c43 hok
        refine lv_iconst (v := 0) hx hb dX3_fewest_46 (by decide) ?_
        refine lv_istore (lv' := [(10, .int 0), (0, .ref aG), (1, .ref aH), (2, .ref aD), (3, .int x3), (4, .int x4), (5, .int x5), (6, .int x6), (8, .int y8_36), (9, .int y9_36)]) hx hb dX3_fewest_47 hl (by decide) rfl (fun ls hl => ?_)
        exact L49 5000 (0 : Int32) vW_cells_36 vW_inFront_36 vW_who_36 vW_4_36 vW_36 H locs ls hP hD hS (lv_sub hl [1, 2, 3, 4, 5, 6, 7, 8, 9, 0] rfl) hok
  unfold fX3_fewest at hok
  obtain ⟨H, hH⟩ : ∃ H, H = s.heap := ⟨_, rfl⟩
  obtain ⟨locs, hlc⟩ : ∃ x : List Loc, x = [] := ⟨_, rfl⟩
  have hP : va_P D vwCl (wX3_fewest cy aG aH aD qD qH qG qW aH0 aH0 vD vD_now vH vH_kinds vG vW vW_who vW_cells vH_sorts vH_next vW_inFront vH_sizes vH_width vH_doorOne vH_doorTwo) H := by rw [hH]; exact hP
  have hS : va_S A s.heap H locs := by rw [hH, hlc]; exact hS
  rw [show W p l e _ s m _ below meth c s.heap [] = W p l e _ s m _ below meth c H locs from by rw [hH, hlc]]
  refine lv_iconst (v := 1) hx hb dX3_fewest_0 (by decide) ?_
  refine lv_aload_n hx hb dX3_fewest_1 rfl (lv_at hl 2 rfl) ?_
  refine lv_iload_n hx hb dX3_fewest_2 rfl (lv_at hl 3 rfl) ?_
  obtain ⟨r3, hc3, hok⟩ := k_bind hok
  refine kCi (wc := (wX1_cellOf cy aD qD vD vD_now)) (wc2 := (wX1_cellOf cy aD qD vD vD_now)) (wr := [(aH, oX4 vH qH), (qH 14, rI cy 7 vH_kinds), (aG, oX3 vG qG), (qG 0, oX6 vW qW aH0), (qW 1, rI cy 36 vW_who), (qW 0, rI cy 7 vW_cells), (qH 8, rI cy 4 vH_sorts), (qH 10, rI cy 36 vH_next), (qW 2, rI cy 7 vW_inFront), (qH 15, rI cy 7 vH_sizes), (qH 11, rI cy 36 vH_width), (qH 12, rI cy 5 vH_doorOne), (qH 13, rI cy 5 vH_doorTwo)]) (ws2 := (wX3_fewest cy aG aH aD qD qH qG qW aH0 aH0 vD vD_now vH vH_kinds vG vW vW_who vW_cells vH_sorts vH_next vW_inFront vH_sizes vH_width vH_doorOne vH_doorTwo)) (kRunV (As := [.int x3]) (rest := [.int 1]) ⟨hx, hb, hml, hown, ht0⟩ (kX1_cellOf l D cy _ aD qD vD vD_now x3 r3 hc3 _ rfl) (cwV 1 ht0 (gV wd81 wd82 wd83 wd74 wd84) rfl rfl rfl (by decide +kernel) ⟨Nat.le_of_ble_eq_true rfl, Nat.le_of_ble_eq_true rfl⟩) hK hN hP hD [0, 1] rfl (by decide) 0 1 rfl rfl rfl hl.1 rfl (Nat.le_of_ble_eq_true rfl) dX3_fewest_3 ⟨Nat.zero_le _, Nat.zero_le _⟩) hP hD hS hA [0, 1] [2, 3, 4, 5, 6, 7, 8, 9, 10, 11, 12, 13, 14] rfl rfl (by decide) (by decide) [13, 14, 0, 1, 2, 3, 4, 5, 6, 7, 8, 9, 10, 11, 12] (by decide) rfl rfl (fun H locs hP hD hS => ?_)
  obtain ⟨r6, hc6, hok⟩ := k_bind hok
  refine kCi (wc := (wX8_ringOfCell cy )) (wc2 := (wX8_ringOfCell cy )) (wr := [(aD, oX1 vD qD), (qD 0, rI cy 9 vD_now), (aH, oX4 vH qH), (qH 14, rI cy 7 vH_kinds), (aG, oX3 vG qG), (qG 0, oX6 vW qW aH0), (qW 1, rI cy 36 vW_who), (qW 0, rI cy 7 vW_cells), (qH 8, rI cy 4 vH_sorts), (qH 10, rI cy 36 vH_next), (qW 2, rI cy 7 vW_inFront), (qH 15, rI cy 7 vH_sizes), (qH 11, rI cy 36 vH_width), (qH 12, rI cy 5 vH_doorOne), (qH 13, rI cy 5 vH_doorTwo)]) (ws2 := (wX3_fewest cy aG aH aD qD qH qG qW aH0 aH0 vD vD_now vH vH_kinds vG vW vW_who vW_cells vH_sorts vH_next vW_inFront vH_sizes vH_width vH_doorOne vH_doorTwo)) (kRunSN (As := [.int r3]) (rest := [.int 1]) ⟨hx, hb, hml, hown, ht0⟩ (kX8_ringOfCell l D cy _ r3 r6 hc6 _ rfl) ⟨va_cnB 1 ht0 (gN wd56) rfl rfl rfl (hN _ (List.mem_of_getElem? (i := 2) rfl)) (ht0 _ wd57) (by decide +kernel) ⟨Nat.le_of_ble_eq_true rfl, Nat.le_of_ble_eq_true rfl⟩, ht0 _ wd58, trivial⟩ hK hN hP hD [] rfl (by decide) rfl hl.1 rfl (Nat.le_of_ble_eq_true rfl) dX3_fewest_6 ⟨Nat.zero_le _, Nat.zero_le _⟩) hP hD hS hA [] [0, 1, 2, 3, 4, 5, 6, 7, 8, 9, 10, 11, 12, 13, 14] rfl rfl (by decide) (by decide) [0, 1, 2, 3, 4, 5, 6, 7, 8, 9, 10, 11, 12, 13, 14] (by decide) rfl rfl (fun H locs hP hD hS => ?_)
  refine lv_ishl hx hb dX3_fewest_9 ?_
  refine lv_iconst (v := 1) hx hb dX3_fewest_10 (by decide) ?_
  refine lv_aload_n hx hb dX3_fewest_11 rfl (lv_at hl 2 rfl) ?_
  refine lv_iload hx hb dX3_fewest_12 (lv_at hl 4 rfl) ?_
  obtain ⟨r14, hc14, hok⟩ := k_bind hok
  refine kCi (wc := (wX1_cellOf cy aD qD vD vD_now)) (wc2 := (wX1_cellOf cy aD qD vD vD_now)) (wr := [(aH, oX4 vH qH), (qH 14, rI cy 7 vH_kinds), (aG, oX3 vG qG), (qG 0, oX6 vW qW aH0), (qW 1, rI cy 36 vW_who), (qW 0, rI cy 7 vW_cells), (qH 8, rI cy 4 vH_sorts), (qH 10, rI cy 36 vH_next), (qW 2, rI cy 7 vW_inFront), (qH 15, rI cy 7 vH_sizes), (qH 11, rI cy 36 vH_width), (qH 12, rI cy 5 vH_doorOne), (qH 13, rI cy 5 vH_doorTwo)]) (ws2 := (wX3_fewest cy aG aH aD qD qH qG qW aH0 aH0 vD vD_now vH vH_kinds vG vW vW_who vW_cells vH_sorts vH_next vW_inFront vH_sizes vH_width vH_doorOne vH_doorTwo)) (kRunV (As := [.int x4]) (rest := [.int 1, .int (isl (1 : Int32) r6)]) ⟨hx, hb, hml, hown, ht0⟩ (kX1_cellOf l D cy _ aD qD vD vD_now x4 r14 hc14 _ rfl) (cwV 1 ht0 (gV wd81 wd82 wd83 wd74 wd84) rfl rfl rfl (by decide +kernel) ⟨Nat.le_of_ble_eq_true rfl, Nat.le_of_ble_eq_true rfl⟩) hK hN hP hD [0, 1] rfl (by decide) 0 1 rfl rfl rfl hl.1 rfl (Nat.le_of_ble_eq_true rfl) dX3_fewest_14 ⟨Nat.zero_le _, Nat.zero_le _⟩) hP hD hS hA [0, 1] [2, 3, 4, 5, 6, 7, 8, 9, 10, 11, 12, 13, 14] rfl rfl (by decide) (by decide) [13, 14, 0, 1, 2, 3, 4, 5, 6, 7, 8, 9, 10, 11, 12] (by decide) rfl rfl (fun H locs hP hD hS => ?_)
  obtain ⟨r17, hc17, hok⟩ := k_bind hok
  refine kCi (wc := (wX8_ringOfCell cy )) (wc2 := (wX8_ringOfCell cy )) (wr := [(aD, oX1 vD qD), (qD 0, rI cy 9 vD_now), (aH, oX4 vH qH), (qH 14, rI cy 7 vH_kinds), (aG, oX3 vG qG), (qG 0, oX6 vW qW aH0), (qW 1, rI cy 36 vW_who), (qW 0, rI cy 7 vW_cells), (qH 8, rI cy 4 vH_sorts), (qH 10, rI cy 36 vH_next), (qW 2, rI cy 7 vW_inFront), (qH 15, rI cy 7 vH_sizes), (qH 11, rI cy 36 vH_width), (qH 12, rI cy 5 vH_doorOne), (qH 13, rI cy 5 vH_doorTwo)]) (ws2 := (wX3_fewest cy aG aH aD qD qH qG qW aH0 aH0 vD vD_now vH vH_kinds vG vW vW_who vW_cells vH_sorts vH_next vW_inFront vH_sizes vH_width vH_doorOne vH_doorTwo)) (kRunSN (As := [.int r14]) (rest := [.int 1, .int (isl (1 : Int32) r6)]) ⟨hx, hb, hml, hown, ht0⟩ (kX8_ringOfCell l D cy _ r14 r17 hc17 _ rfl) ⟨va_cnB 1 ht0 (gN wd56) rfl rfl rfl (hN _ (List.mem_of_getElem? (i := 2) rfl)) (ht0 _ wd57) (by decide +kernel) ⟨Nat.le_of_ble_eq_true rfl, Nat.le_of_ble_eq_true rfl⟩, ht0 _ wd58, trivial⟩ hK hN hP hD [] rfl (by decide) rfl hl.1 rfl (Nat.le_of_ble_eq_true rfl) dX3_fewest_17 ⟨Nat.zero_le _, Nat.zero_le _⟩) hP hD hS hA [] [0, 1, 2, 3, 4, 5, 6, 7, 8, 9, 10, 11, 12, 13, 14] rfl rfl (by decide) (by decide) [0, 1, 2, 3, 4, 5, 6, 7, 8, 9, 10, 11, 12, 13, 14] (by decide) rfl rfl (fun H locs hP hD hS => ?_)
  refine lv_ishl hx hb dX3_fewest_20 ?_
  refine lv_ior hx hb dX3_fewest_21 ?_
  refine lv_istore (lv' := [(7, .int ((isl (1 : Int32) r6) ||| (isl (1 : Int32) r17))), (0, .ref aG), (1, .ref aH), (2, .ref aD), (3, .int x3), (4, .int x4), (5, .int x5), (6, .int x6)]) hx hb dX3_fewest_22 hl (by decide) rfl (fun ls hl => ?_)
  refine lv_aload_n hx hb dX3_fewest_24 rfl (lv_at hl 2 rfl) ?_
  refine lv_aload_n hx hb dX3_fewest_25 rfl (lv_at hl 3 rfl) ?_
  refine lv_iload hx hb dX3_fewest_26 (lv_at hl 0 rfl) ?_
  obtain ⟨r28, hc28, hok⟩ := k_bind hok
  refine kCi (wc := (wX3_freeIn cy aH aD qH qD vH vD vD_now vH_kinds)) (wc2 := (wX3_freeIn cy aH aD qH qD vH vD vD_now vH_kinds)) (wr := [(aG, oX3 vG qG), (qG 0, oX6 vW qW aH0), (qW 1, rI cy 36 vW_who), (qW 0, rI cy 7 vW_cells), (qH 8, rI cy 4 vH_sorts), (qH 10, rI cy 36 vH_next), (qW 2, rI cy 7 vW_inFront), (qH 15, rI cy 7 vH_sizes), (qH 11, rI cy 36 vH_width), (qH 12, rI cy 5 vH_doorOne), (qH 13, rI cy 5 vH_doorTwo)]) (ws2 := (wX3_fewest cy aG aH aD qD qH qG qW aH0 aH0 vD vD_now vH vH_kinds vG vW vW_who vW_cells vH_sorts vH_next vW_inFront vH_sizes vH_width vH_doorOne vH_doorTwo)) (kRunS (As := [.ref aH, .ref aD, .int ((isl (1 : Int32) r6) ||| (isl (1 : Int32) r17))]) (rest := []) ⟨hx, hb, hml, hown, ht0⟩ (kX3_freeIn l D cy _ aH aD qH qD vH vD vD_now vH_kinds ((isl (1 : Int32) r6) ||| (isl (1 : Int32) r17)) r28 hc28 _ rfl) (va_cwS 3 ht0 (gS wd192 wd193 wd178 wd194) rfl rfl rfl (by decide +kernel) ⟨Nat.le_of_ble_eq_true rfl, Nat.le_of_ble_eq_true rfl⟩) hK hN hP hD [2, 0, 1, 3] rfl (by decide) rfl hl.1 rfl (Nat.le_of_ble_eq_true rfl) dX3_fewest_28 ⟨Nat.zero_le _, Nat.zero_le _⟩) hP hD hS hA [2, 0, 1, 3] [4, 5, 6, 7, 8, 9, 10, 11, 12, 13, 14] rfl rfl (by decide) (by decide) [12, 13, 11, 14, 0, 1, 2, 3, 4, 5, 6, 7, 8, 9, 10] (by decide) rfl rfl (fun H locs hP hD hS => ?_)
  refine lv_istore (lv' := [(8, .int r28), (7, .int ((isl (1 : Int32) r6) ||| (isl (1 : Int32) r17))), (0, .ref aG), (1, .ref aH), (2, .ref aD), (3, .int x3), (4, .int x4), (5, .int x5), (6, .int x6)]) hx hb dX3_fewest_31 hl (by decide) rfl (fun ls hl => ?_)
  refine lv_iconst (v := 0) hx hb dX3_fewest_33 (by decide) ?_
  refine lv_istore (lv' := [(9, .int 0), (8, .int r28), (7, .int ((isl (1 : Int32) r6) ||| (isl (1 : Int32) r17))), (0, .ref aG), (1, .ref aH), (2, .ref aD), (3, .int x3), (4, .int x4), (5, .int x5), (6, .int x6)]) hx hb dX3_fewest_34 hl (by decide) rfl (fun ls hl => ?_)
  exact L36 5000 r28 (0 : Int32) vW_cells vW_inFront vW_who aH0 vW H locs ls hP hD hS (lv_sub hl [3, 4, 5, 6, 7, 8, 9, 1, 0] rfl) hok
