def wsX4_stands : List Cond := .code yX4_stands cX4_stands 1 (some .boolean) :: W0
abbrev wX4_stands (cy : Nat → ClassId) (aH : Nat) (qH : Nat → Nat) (vH : Nat → Int32) : va_W := [(aH, oX4 vH qH)]
set_option maxHeartbeats 4000000 in
set_option maxRecDepth 100000 in
theorem kX4_stands (l : Launch) (D : va_G) (cy : Nat → ClassId) (sz : Nat) (aH : Nat) (qH : Nat → Nat) (vH : Nat → Int32) (zr : Int32) (hok : fX4_stands vH = some zr) (A : Nat → Prop) (hAe : va_A (wX4_stands cy aH qH vH) sz = A) : Met l yX4_stands wsX4_stands ({ frames := 0, cells := 0, slots := 0, locals := 0 } : Room) (kPre D cy [.ref aH] (wX4_stands cy aH qH vH) sz) (kQi D cy zr A (wX4_stands cy aH qH vH)) 0 0 A := by
  refine Met.ofW (cc := cX4_stands) (maxL := 1) (ret := (some .boolean)) (by decide) rfl ?_
  intro p e s m args below meth c s₁ B hml hv
  obtain ⟨rfl, hsz, hP, hK, hD0, hN⟩ := hv
  have hx := B.exec
  have hb := B.bytes
  have hr := B.returns
  have ht0 : ∀ w ∈ W0, w.before _ s = true := fun w h => atoms_spec (ws := wsX4_stands) B.pre w (List.mem_cons_of_mem _ h)
  have hown : s.vm.findClass RX4 = some m.cls := findClass_of_methodNamed B.named
  have hlocks := B.notSynchronized
  subst hsz
  have hD : va_D A (wX4_stands cy aH qH vH) := by rw [← hAe]; exact hD0.self
  have hA : ∀ q : Nat, s.heap.size ≤ q → A q := fun q h => by rw [← hAe]; exact Or.inr h
  have hS : va_S A s.heap s.heap [] := va_S.rf
  have hl := lv_entry ([.ref aH]) (n := 1) (Nat.le_of_ble_eq_true rfl)
  rw [lg_entry_eq]
  generalize (lg_sl ([.ref aH]) ++ List.replicate (1 - (lg_sl ([.ref aH])).length) Slot.unset).toArray = ls at hl ⊢
  have hl : lv_has ls 1 [(0, .ref aH)] := hl
  generalize hQe : MQ below (kQi D cy zr A (wX4_stands cy aH qH vH)) ([.ref aH] : List Value).toArray s 0 0 A = Q
  have J12 : ∀ (t0_12 : Int32), ∀ (H : Heap) (locs : List Loc) (ls : Array Slot), va_P D vwCl (wX4_stands cy aH qH vH) H → va_D A (wX4_stands cy aH qH vH) → va_S A s.heap H locs → lv_has ls 1 [] → fX4_stands_J12 t0_12 = some zr → W p l e ({ frames := 0, cells := 0, slots := 0, locals := 0 } : Room) s m ([.ref aH] : List Value).toArray below meth c H locs 0 0 Q (F0 m 12 ls [.int t0_12]) := by
    intro t0_12 H locs ls hP hD hS hl hok
    unfold fX4_stands_J12 at hok
    obtain ⟨g12, hok⟩ := gd_some hok
    cases hok
    subst hQe; exact W.zret hx hb hr (isB_nar g12) (fun t ht hW => ⟨⟨_, (), rfl, rfl, by rw [ht]; exact hP, va_K.moved hW.alike hK, hD⟩, hS.F ht⟩) hS.2.2 dX4_stands_12
  unfold fX4_stands at hok
  obtain ⟨H, hH⟩ : ∃ H, H = s.heap := ⟨_, rfl⟩
  obtain ⟨locs, hlc⟩ : ∃ x : List Loc, x = [] := ⟨_, rfl⟩
  have hP : va_P D vwCl (wX4_stands cy aH qH vH) H := by rw [hH]; exact hP
  have hS : va_S A s.heap H locs := by rw [hH, hlc]; exact hS
  rw [show W p l e _ s m _ below meth c s.heap [] = W p l e _ s m _ below meth c H locs from by rw [hH, hlc]]
  refine lv_aload_n hx hb dX4_stands_0 rfl (lv_at hl 0 rfl) ?_
  refine va_get (D := D) (ci := 3) (v := .int (vH 2)) (C := RX4) (T := TX4) (N := 20) hx hb ht0 niX4 hown hK hP 0 rfl rfl 2 (by decide) (ht0 _ wd93) (fun _ h9 => h9) rfl dX4_stands_1 ?_
  refine lv_if_le (tgt := 11) hx hb dX4_stands_4 (by decide) (fun c4 => ?_) (fun c4 => ?_)
  · have hok := k_pos c4 hok
    refine lv_iconst (v := 0) hx hb dX4_stands_11 (by decide) ?_
    exact J12 (0 : Int32) H locs ls hP hD hS (lv_sub hl [] rfl) hok
  · have hok := k_neg c4 hok
    refine lv_iconst (v := 1) hx hb dX4_stands_7 (by decide) ?_
    refine lv_goto (tgt := 12) hx hb dX4_stands_8 (by decide) ?_
    exact J12 (1 : Int32) H locs ls hP hD hS (lv_sub hl [] rfl) hok
def wsX4_hasPlace : List Cond := .code yX4_hasPlace cX4_hasPlace 3 (some .boolean) :: W0
abbrev wX4_hasPlace (cy : Nat → ClassId) (aH : Nat) (qH : Nat → Nat) (vH : Nat → Int32) (vH_places : Nat → Int32) : va_W := [(aH, oX4 vH qH), (qH 9, rI cy 4 vH_places)]
set_option maxHeartbeats 4000000 in
set_option maxRecDepth 100000 in
theorem kX4_hasPlace (l : Launch) (D : va_G) (cy : Nat → ClassId) (sz : Nat) (aH : Nat) (qH : Nat → Nat) (vH : Nat → Int32) (vH_places : Nat → Int32) (x1 : Int32) (x2 : Int32) (zr : Int32) (hok : fX4_hasPlace vH vH_places x1 x2 = some zr) (A : Nat → Prop) (hAe : va_A (wX4_hasPlace cy aH qH vH vH_places) sz = A) : Met l yX4_hasPlace wsX4_hasPlace ({ frames := 1, cells := 0, slots := 0, locals := 21 } : Room) (kPre D cy [.ref aH, .int x1, .int x2] (wX4_hasPlace cy aH qH vH vH_places) sz) (kQi D cy zr A (wX4_hasPlace cy aH qH vH vH_places)) 0 0 A := by
  refine Met.ofW (cc := cX4_hasPlace) (maxL := 3) (ret := (some .boolean)) (by decide) rfl ?_
  intro p e s m args below meth c s₁ B hml hv
  obtain ⟨rfl, hsz, hP, hK, hD0, hN⟩ := hv
  have hx := B.exec
  have hb := B.bytes
  have hr := B.returns
  have ht0 : ∀ w ∈ W0, w.before _ s = true := fun w h => atoms_spec (ws := wsX4_hasPlace) B.pre w (List.mem_cons_of_mem _ h)
  have hown : s.vm.findClass RX4 = some m.cls := findClass_of_methodNamed B.named
  have hlocks := B.notSynchronized
  subst hsz
  have hD : va_D A (wX4_hasPlace cy aH qH vH vH_places) := by rw [← hAe]; exact hD0.self
  have hA : ∀ q : Nat, s.heap.size ≤ q → A q := fun q h => by rw [← hAe]; exact Or.inr h
  have hS : va_S A s.heap s.heap [] := va_S.rf
  have hl := lv_entry ([.ref aH, .int x1, .int x2]) (n := 3) (Nat.le_of_ble_eq_true rfl)
  rw [lg_entry_eq]
  generalize (lg_sl ([.ref aH, .int x1, .int x2]) ++ List.replicate (3 - (lg_sl ([.ref aH, .int x1, .int x2])).length) Slot.unset).toArray = ls at hl ⊢
  have hl : lv_has ls 3 [(0, .ref aH), (1, .int x1), (2, .int x2)] := hl
  generalize hQe : MQ below (kQi D cy zr A (wX4_hasPlace cy aH qH vH vH_places)) ([.ref aH, .int x1, .int x2] : List Value).toArray s 0 0 A = Q
  have J27 : ∀ (t0_27 : Int32), ∀ (H : Heap) (locs : List Loc) (ls : Array Slot), va_P D vwCl (wX4_hasPlace cy aH qH vH vH_places) H → va_D A (wX4_hasPlace cy aH qH vH vH_places) → va_S A s.heap H locs → lv_has ls 3 [] → fX4_hasPlace_J27 t0_27 = some zr → W p l e ({ frames := 1, cells := 0, slots := 0, locals := 21 } : Room) s m ([.ref aH, .int x1, .int x2] : List Value).toArray below meth c H locs 0 0 Q (F0 m 27 ls [.int t0_27]) := by
    intro t0_27 H locs ls hP hD hS hl hok
    unfold fX4_hasPlace_J27 at hok
    obtain ⟨g27, hok⟩ := gd_some hok
    cases hok
    subst hQe; exact W.zret hx hb hr (isB_nar g27) (fun t ht hW => ⟨⟨_, (), rfl, rfl, by rw [ht]; exact hP, va_K.moved hW.alike hK, hD⟩, hS.F ht⟩) hS.2.2 dX4_hasPlace_27
  have J26 : ∀ (H : Heap) (locs : List Loc) (ls : Array Slot), va_P D vwCl (wX4_hasPlace cy aH qH vH vH_places) H → va_D A (wX4_hasPlace cy aH qH vH vH_places) → va_S A s.heap H locs → lv_has ls 3 [] → fX4_hasPlace_J26 = some zr → W p l e ({ frames := 1, cells := 0, slots := 0, locals := 21 } : Room) s m ([.ref aH, .int x1, .int x2] : List Value).toArray below meth c H locs 0 0 Q (F0 m 26 ls []) := by
    intro  H locs ls hP hD hS hl hok
    unfold fX4_hasPlace_J26 at hok
    refine lv_iconst (v := 0) hx hb dX4_hasPlace_26 (by decide) ?_
    exact J27 (0 : Int32) H locs ls hP hD hS (lv_sub hl [] rfl) hok
  unfold fX4_hasPlace at hok
  obtain ⟨H, hH⟩ : ∃ H, H = s.heap := ⟨_, rfl⟩
  obtain ⟨locs, hlc⟩ : ∃ x : List Loc, x = [] := ⟨_, rfl⟩
  have hP : va_P D vwCl (wX4_hasPlace cy aH qH vH vH_places) H := by rw [hH]; exact hP
  have hS : va_S A s.heap H locs := by rw [hH, hlc]; exact hS
  rw [show W p l e _ s m _ below meth c s.heap [] = W p l e _ s m _ below meth c H locs from by rw [hH, hlc]]
  refine lv_aload_n hx hb dX4_hasPlace_0 rfl (lv_at hl 0 rfl) ?_
  refine lv_iload_n hx hb dX4_hasPlace_1 rfl (lv_at hl 1 rfl) ?_
  obtain ⟨r2, hc2, hok⟩ := k_bind hok
  refine kCi (wc := (wX4_hasRing cy aH qH vH)) (wc2 := (wX4_hasRing cy aH qH vH)) (wr := [(qH 9, rI cy 4 vH_places)]) (ws2 := (wX4_hasPlace cy aH qH vH vH_places)) (kRunV (As := [.int x1]) (rest := []) ⟨hx, hb, hml, hown, ht0⟩ (kX4_hasRing l D cy _ aH qH vH x1 r2 hc2 _ rfl) (cwV 1 ht0 (gV wd94 wd95 wd96 wd9 wd97) rfl rfl rfl (by decide +kernel) ⟨Nat.le_of_ble_eq_true rfl, Nat.le_of_ble_eq_true rfl⟩) hK hN hP hD [0] rfl (by decide) 0 3 rfl rfl rfl hl.1 rfl (Nat.le_of_ble_eq_true rfl) dX4_hasPlace_2 ⟨Nat.zero_le _, Nat.zero_le _⟩) hP hD hS hA [0] [1] rfl rfl (by decide) (by decide) [1, 0] (by decide) rfl rfl (fun H locs hP hD hS => ?_)
  refine lv_if_eq (tgt := 26) hx hb dX4_hasPlace_5 (by decide) (fun c5 => ?_) (fun c5 => ?_)
  · have hok := k_pos c5 hok
    exact J26  H locs ls hP hD hS (lv_sub hl [] rfl) hok
  · have hok := k_neg c5 hok
    refine lv_iload_n hx hb dX4_hasPlace_8 rfl (lv_at hl 2 rfl) ?_
    refine lv_if_lt (tgt := 26) hx hb dX4_hasPlace_9 (by decide) (fun c9 => ?_) (fun c9 => ?_)
    · have hok := k_pos c9 hok
      exact J26  H locs ls hP hD hS (lv_sub hl [] rfl) hok
    · have hok := k_neg c9 hok
      refine lv_iload_n hx hb dX4_hasPlace_12 rfl (lv_at hl 2 rfl) ?_
      refine lv_aload_n hx hb dX4_hasPlace_13 rfl (lv_at hl 0 rfl) ?_
      refine va_get (D := D) (ci := 3) (v := .ref (qH 9)) (C := RX4) (T := TX4) (N := 20) hx hb ht0 niX4 hown hK hP 0 rfl rfl 9 (by decide) (ht0 _ wd255) (fun _ h9 => h9) rfl dX4_hasPlace_14 ?_
      refine lv_iload_n hx hb dX4_hasPlace_17 rfl (lv_at hl 1 rfl) ?_
      obtain ⟨g18, hok⟩ := gd_some hok
      refine va_iald hx hb hK hP 1 0 rfl rfl (okI_in g18) dX4_hasPlace_18 ?_
      refine lv_icmp_ge (tgt := 26) hx hb dX4_hasPlace_19 (by decide) (fun c19 => ?_) (fun c19 => ?_)
      · have hok := k_pos c19 hok
        exact J26  H locs ls hP hD hS (lv_sub hl [] rfl) hok
      · have hok := k_neg c19 hok
        refine lv_iconst (v := 1) hx hb dX4_hasPlace_22 (by decide) ?_
        refine lv_goto (tgt := 27) hx hb dX4_hasPlace_23 (by decide) ?_
        exact J27 (1 : Int32) H locs ls hP hD hS (lv_sub hl [] rfl) hok
def wsX4_hasThing : List Cond := .code yX4_hasThing cX4_hasThing 2 (some .boolean) :: W0
abbrev wX4_hasThing (cy : Nat → ClassId) (aH : Nat) (qH : Nat → Nat) (vH : Nat → Int32) : va_W := [(aH, oX4 vH qH)]
set_option maxHeartbeats 4000000 in
set_option maxRecDepth 100000 in
theorem kX4_hasThing (l : Launch) (D : va_G) (cy : Nat → ClassId) (sz : Nat) (aH : Nat) (qH : Nat → Nat) (vH : Nat → Int32) (x1 : Int32) (zr : Int32) (hok : fX4_hasThing vH x1 = some zr) (A : Nat → Prop) (hAe : va_A (wX4_hasThing cy aH qH vH) sz = A) : Met l yX4_hasThing wsX4_hasThing ({ frames := 0, cells := 0, slots := 0, locals := 0 } : Room) (kPre D cy [.ref aH, .int x1] (wX4_hasThing cy aH qH vH) sz) (kQi D cy zr A (wX4_hasThing cy aH qH vH)) 0 0 A := by
  refine Met.ofW (cc := cX4_hasThing) (maxL := 2) (ret := (some .boolean)) (by decide) rfl ?_
  intro p e s m args below meth c s₁ B hml hv
  obtain ⟨rfl, hsz, hP, hK, hD0, hN⟩ := hv
  have hx := B.exec
  have hb := B.bytes
  have hr := B.returns
  have ht0 : ∀ w ∈ W0, w.before _ s = true := fun w h => atoms_spec (ws := wsX4_hasThing) B.pre w (List.mem_cons_of_mem _ h)
  have hown : s.vm.findClass RX4 = some m.cls := findClass_of_methodNamed B.named
  have hlocks := B.notSynchronized
  subst hsz
  have hD : va_D A (wX4_hasThing cy aH qH vH) := by rw [← hAe]; exact hD0.self
  have hA : ∀ q : Nat, s.heap.size ≤ q → A q := fun q h => by rw [← hAe]; exact Or.inr h
  have hS : va_S A s.heap s.heap [] := va_S.rf
  have hl := lv_entry ([.ref aH, .int x1]) (n := 2) (Nat.le_of_ble_eq_true rfl)
  rw [lg_entry_eq]
  generalize (lg_sl ([.ref aH, .int x1]) ++ List.replicate (2 - (lg_sl ([.ref aH, .int x1])).length) Slot.unset).toArray = ls at hl ⊢
  have hl : lv_has ls 2 [(0, .ref aH), (1, .int x1)] := hl
  generalize hQe : MQ below (kQi D cy zr A (wX4_hasThing cy aH qH vH)) ([.ref aH, .int x1] : List Value).toArray s 0 0 A = Q
  have J23 : ∀ (t0_23 : Int32), ∀ (H : Heap) (locs : List Loc) (ls : Array Slot), va_P D vwCl (wX4_hasThing cy aH qH vH) H → va_D A (wX4_hasThing cy aH qH vH) → va_S A s.heap H locs → lv_has ls 2 [] → fX4_hasThing_J23 t0_23 = some zr → W p l e ({ frames := 0, cells := 0, slots := 0, locals := 0 } : Room) s m ([.ref aH, .int x1] : List Value).toArray below meth c H locs 0 0 Q (F0 m 23 ls [.int t0_23]) := by
    intro t0_23 H locs ls hP hD hS hl hok
    unfold fX4_hasThing_J23 at hok
    obtain ⟨g23, hok⟩ := gd_some hok
    cases hok
    subst hQe; exact W.zret hx hb hr (isB_nar g23) (fun t ht hW => ⟨⟨_, (), rfl, rfl, by rw [ht]; exact hP, va_K.moved hW.alike hK, hD⟩, hS.F ht⟩) hS.2.2 dX4_hasThing_23
  have J22 : ∀ (H : Heap) (locs : List Loc) (ls : Array Slot), va_P D vwCl (wX4_hasThing cy aH qH vH) H → va_D A (wX4_hasThing cy aH qH vH) → va_S A s.heap H locs → lv_has ls 2 [] → fX4_hasThing_J22 = some zr → W p l e ({ frames := 0, cells := 0, slots := 0, locals := 0 } : Room) s m ([.ref aH, .int x1] : List Value).toArray below meth c H locs 0 0 Q (F0 m 22 ls []) := by
    intro  H locs ls hP hD hS hl hok
    unfold fX4_hasThing_J22 at hok
    refine lv_iconst (v := 0) hx hb dX4_hasThing_22 (by decide) ?_
    exact J23 (0 : Int32) H locs ls hP hD hS (lv_sub hl [] rfl) hok
  unfold fX4_hasThing at hok
  obtain ⟨H, hH⟩ : ∃ H, H = s.heap := ⟨_, rfl⟩
  obtain ⟨locs, hlc⟩ : ∃ x : List Loc, x = [] := ⟨_, rfl⟩
  have hP : va_P D vwCl (wX4_hasThing cy aH qH vH) H := by rw [hH]; exact hP
  have hS : va_S A s.heap H locs := by rw [hH, hlc]; exact hS
  rw [show W p l e _ s m _ below meth c s.heap [] = W p l e _ s m _ below meth c H locs from by rw [hH, hlc]]
  refine lv_iload_n hx hb dX4_hasThing_0 rfl (lv_at hl 1 rfl) ?_
  refine lv_if_lt (tgt := 22) hx hb dX4_hasThing_1 (by decide) (fun c1 => ?_) (fun c1 => ?_)
  · have hok := k_pos c1 hok
    exact J22  H locs ls hP hD hS (lv_sub hl [] rfl) hok
  · have hok := k_neg c1 hok
    refine lv_iload_n hx hb dX4_hasThing_4 rfl (lv_at hl 1 rfl) ?_
    refine lv_aload_n hx hb dX4_hasThing_5 rfl (lv_at hl 0 rfl) ?_
    refine va_get (D := D) (ci := 3) (v := .int (vH 5)) (C := RX4) (T := TX4) (N := 20) hx hb ht0 niX4 hown hK hP 0 rfl rfl 5 (by decide) (ht0 _ wd248) (fun _ h9 => h9) rfl dX4_hasThing_6 ?_
    refine lv_icmp_ge (tgt := 22) hx hb dX4_hasThing_9 (by decide) (fun c9 => ?_) (fun c9 => ?_)
    · have hok := k_pos c9 hok
      exact J22  H locs ls hP hD hS (lv_sub hl [] rfl) hok
    · have hok := k_neg c9 hok
      refine lv_iload_n hx hb dX4_hasThing_12 rfl (lv_at hl 1 rfl) ?_
      refine lv_bipush (v := 7) hx hb dX4_hasThing_13 (by decide) ?_
      refine lv_icmp_ge (tgt := 22) hx hb dX4_hasThing_15 (by decide) (fun c15 => ?_) (fun c15 => ?_)
      · have hok := k_pos c15 hok
        exact J22  H locs ls hP hD hS (lv_sub hl [] rfl) hok
      · have hok := k_neg c15 hok
        refine lv_iconst (v := 1) hx hb dX4_hasThing_18 (by decide) ?_
        refine lv_goto (tgt := 23) hx hb dX4_hasThing_19 (by decide) ?_
        exact J23 (1 : Int32) H locs ls hP hD hS (lv_sub hl [] rfl) hok
def wsX4_placesOf : List Cond := .code yX4_placesOf cX4_placesOf 2 (some .int) :: W0
abbrev wX4_placesOf (cy : Nat → ClassId) (aH : Nat) (qH : Nat → Nat) (vH : Nat → Int32) (vH_places : Nat → Int32) : va_W := [(aH, oX4 vH qH), (qH 9, rI cy 4 vH_places)]
set_option maxHeartbeats 4000000 in
set_option maxRecDepth 100000 in
theorem kX4_placesOf (l : Launch) (D : va_G) (cy : Nat → ClassId) (sz : Nat) (aH : Nat) (qH : Nat → Nat) (vH : Nat → Int32) (vH_places : Nat → Int32) (x1 : Int32) (zr : Int32) (hok : fX4_placesOf vH vH_places x1 = some zr) (A : Nat → Prop) (hAe : va_A (wX4_placesOf cy aH qH vH vH_places) sz = A) : Met l yX4_placesOf wsX4_placesOf ({ frames := 1, cells := 0, slots := 0, locals := 21 } : Room) (kPre D cy [.ref aH, .int x1] (wX4_placesOf cy aH qH vH vH_places) sz) (kQi D cy zr A (wX4_placesOf cy aH qH vH vH_places)) 0 0 A := by
  refine Met.ofW (cc := cX4_placesOf) (maxL := 2) (ret := (some .int)) (by decide) rfl ?_
  intro p e s m args below meth c s₁ B hml hv
  obtain ⟨rfl, hsz, hP, hK, hD0, hN⟩ := hv
  have hx := B.exec
  have hb := B.bytes
  have hr := B.returns
  have ht0 : ∀ w ∈ W0, w.before _ s = true := fun w h => atoms_spec (ws := wsX4_placesOf) B.pre w (List.mem_cons_of_mem _ h)
  have hown : s.vm.findClass RX4 = some m.cls := findClass_of_methodNamed B.named
  have hlocks := B.notSynchronized
  subst hsz
  have hD : va_D A (wX4_placesOf cy aH qH vH vH_places) := by rw [← hAe]; exact hD0.self
  have hA : ∀ q : Nat, s.heap.size ≤ q → A q := fun q h => by rw [← hAe]; exact Or.inr h
  have hS : va_S A s.heap s.heap [] := va_S.rf
  have hl := lv_entry ([.ref aH, .int x1]) (n := 2) (Nat.le_of_ble_eq_true rfl)
  rw [lg_entry_eq]
  generalize (lg_sl ([.ref aH, .int x1]) ++ List.replicate (2 - (lg_sl ([.ref aH, .int x1])).length) Slot.unset).toArray = ls at hl ⊢
  have hl : lv_has ls 2 [(0, .ref aH), (1, .int x1)] := hl
  generalize hQe : MQ below (kQi D cy zr A (wX4_placesOf cy aH qH vH vH_places)) ([.ref aH, .int x1] : List Value).toArray s 0 0 A = Q
  have J18 : ∀ (t0_18 : Int32), ∀ (H : Heap) (locs : List Loc) (ls : Array Slot), va_P D vwCl (wX4_placesOf cy aH qH vH vH_places) H → va_D A (wX4_placesOf cy aH qH vH vH_places) → va_S A s.heap H locs → lv_has ls 2 [] → fX4_placesOf_J18 t0_18 = some zr → W p l e ({ frames := 1, cells := 0, slots := 0, locals := 21 } : Room) s m ([.ref aH, .int x1] : List Value).toArray below meth c H locs 0 0 Q (F0 m 18 ls [.int t0_18]) := by
    intro t0_18 H locs ls hP hD hS hl hok
    unfold fX4_placesOf_J18 at hok
    cases hok
    subst hQe; exact W.iret hx hb hr (fun t ht hW => ⟨⟨_, (), rfl, rfl, by rw [ht]; exact hP, va_K.moved hW.alike hK, hD⟩, hS.F ht⟩) hS.2.2 dX4_placesOf_18
  unfold fX4_placesOf at hok
  obtain ⟨H, hH⟩ : ∃ H, H = s.heap := ⟨_, rfl⟩
  obtain ⟨locs, hlc⟩ : ∃ x : List Loc, x = [] := ⟨_, rfl⟩
  have hP : va_P D vwCl (wX4_placesOf cy aH qH vH vH_places) H := by rw [hH]; exact hP
  have hS : va_S A s.heap H locs := by rw [hH, hlc]; exact hS
  rw [show W p l e _ s m _ below meth c s.heap [] = W p l e _ s m _ below meth c H locs from by rw [hH, hlc]]
  refine lv_aload_n hx hb dX4_placesOf_0 rfl (lv_at hl 0 rfl) ?_
  refine lv_iload_n hx hb dX4_placesOf_1 rfl (lv_at hl 1 rfl) ?_
  obtain ⟨r2, hc2, hok⟩ := k_bind hok
  refine kCi (wc := (wX4_hasRing cy aH qH vH)) (wc2 := (wX4_hasRing cy aH qH vH)) (wr := [(qH 9, rI cy 4 vH_places)]) (ws2 := (wX4_placesOf cy aH qH vH vH_places)) (kRunV (As := [.int x1]) (rest := []) ⟨hx, hb, hml, hown, ht0⟩ (kX4_hasRing l D cy _ aH qH vH x1 r2 hc2 _ rfl) (cwV 1 ht0 (gV wd94 wd95 wd96 wd9 wd97) rfl rfl rfl (by decide +kernel) ⟨Nat.le_of_ble_eq_true rfl, Nat.le_of_ble_eq_true rfl⟩) hK hN hP hD [0] rfl (by decide) 0 3 rfl rfl rfl hl.1 rfl (Nat.le_of_ble_eq_true rfl) dX4_placesOf_2 ⟨Nat.zero_le _, Nat.zero_le _⟩) hP hD hS hA [0] [1] rfl rfl (by decide) (by decide) [1, 0] (by decide) rfl rfl (fun H locs hP hD hS => ?_)
  refine lv_if_eq (tgt := 17) hx hb dX4_placesOf_5 (by decide) (fun c5 => ?_) (fun c5 => ?_)
  · have hok := k_pos c5 hok
    refine lv_iconst (v := 0) hx hb dX4_placesOf_17 (by decide) ?_
    exact J18 (0 : Int32) H locs ls hP hD hS (lv_sub hl [] rfl) hok
  · have hok := k_neg c5 hok
    refine lv_aload_n hx hb dX4_placesOf_8 rfl (lv_at hl 0 rfl) ?_
    refine va_get (D := D) (ci := 3) (v := .ref (qH 9)) (C := RX4) (T := TX4) (N := 20) hx hb ht0 niX4 hown hK hP 0 rfl rfl 9 (by decide) (ht0 _ wd255) (fun _ h9 => h9) rfl dX4_placesOf_9 ?_
    refine lv_iload_n hx hb dX4_placesOf_12 rfl (lv_at hl 1 rfl) ?_
    obtain ⟨g13, hok⟩ := gd_some hok
    refine va_iald hx hb hK hP 1 0 rfl rfl (okI_in g13) dX4_placesOf_13 ?_
    refine lv_goto (tgt := 18) hx hb dX4_placesOf_14 (by decide) ?_
    exact J18 (vH_places x1.toNatClampNeg) H locs ls hP hD hS (lv_sub hl [] rfl) hok
def wsX4_placesOfAll : List Cond := .code yX4_placesOfAll cX4_placesOfAll 3 (some .int) :: W0
abbrev wX4_placesOfAll (cy : Nat → ClassId) (aH : Nat) (qH : Nat → Nat) (vH : Nat → Int32) (vH_places : Nat → Int32) : va_W := [(aH, oX4 vH qH), (qH 9, rI cy 4 vH_places)]
set_option maxHeartbeats 4000000 in
set_option maxRecDepth 100000 in
theorem kX4_placesOfAll (l : Launch) (D : va_G) (cy : Nat → ClassId) (sz : Nat) (aH : Nat) (qH : Nat → Nat) (vH : Nat → Int32) (vH_places : Nat → Int32) (zr : Int32) (hok : fX4_placesOfAll vH vH_places = some zr) (A : Nat → Prop) (hAe : va_A (wX4_placesOfAll cy aH qH vH vH_places) sz = A) : Met l yX4_placesOfAll wsX4_placesOfAll ({ frames := 2, cells := 0, slots := 0, locals := 42 } : Room) (kPre D cy [.ref aH] (wX4_placesOfAll cy aH qH vH vH_places) sz) (kQi D cy zr A (wX4_placesOfAll cy aH qH vH vH_places)) 0 0 A := by
  refine Met.ofW (cc := cX4_placesOfAll) (maxL := 3) (ret := (some .int)) (by decide) rfl ?_
  intro p e s m args below meth c s₁ B hml hv
  obtain ⟨rfl, hsz, hP, hK, hD0, hN⟩ := hv
  have hx := B.exec
  have hb := B.bytes
  have hr := B.returns
  have ht0 : ∀ w ∈ W0, w.before _ s = true := fun w h => atoms_spec (ws := wsX4_placesOfAll) B.pre w (List.mem_cons_of_mem _ h)
  have hown : s.vm.findClass RX4 = some m.cls := findClass_of_methodNamed B.named
  have hlocks := B.notSynchronized
  subst hsz
  have hD : va_D A (wX4_placesOfAll cy aH qH vH vH_places) := by rw [← hAe]; exact hD0.self
  have hA : ∀ q : Nat, s.heap.size ≤ q → A q := fun q h => by rw [← hAe]; exact Or.inr h
  have hS : va_S A s.heap s.heap [] := va_S.rf
  have hl := lv_entry ([.ref aH]) (n := 3) (Nat.le_of_ble_eq_true rfl)
  rw [lg_entry_eq]
  generalize (lg_sl ([.ref aH]) ++ List.replicate (3 - (lg_sl ([.ref aH])).length) Slot.unset).toArray = ls at hl ⊢
  have hl : lv_has ls 3 [(0, .ref aH)] := hl
  generalize hQe : MQ below (kQi D cy zr A (wX4_placesOfAll cy aH qH vH vH_places)) ([.ref aH] : List Value).toArray s 0 0 A = Q
  have L4 : ∀ (fuel : Nat) (y1_4 : Int32) (y2_4 : Int32), ∀ (H : Heap) (locs : List Loc) (ls : Array Slot), va_P D vwCl (wX4_placesOfAll cy aH qH vH vH_places) H → va_D A (wX4_placesOfAll cy aH qH vH vH_places) → va_S A s.heap H locs → lv_has ls 3 [(0, .ref aH), (1, .int y1_4), (2, .int y2_4)] → lp (fX4_placesOfAll_B4 vH vH_places) fuel (y1_4, y2_4) = some zr → W p l e ({ frames := 2, cells := 0, slots := 0, locals := 42 } : Room) s m ([.ref aH] : List Value).toArray below meth c H locs 0 0 Q (F0 m 4 ls []) := by
    intro fuel
    induction fuel with
    | zero => intro y1_4 y2_4 H locs ls hP hD hS hl hok; exact (lp_0 hok).elim
    | succ fuel ih4 =>
      intro y1_4 y2_4 H locs ls hP hD hS hl hok
      obtain ⟨y4, hok, hL4, hR4⟩ := lp_step hok
      unfold fX4_placesOfAll_B4 at hok
      try dsimp only at hok
      refine lv_iload_n hx hb dX4_placesOfAll_4 rfl (lv_at hl 2 rfl) ?_
      refine lv_aload_n hx hb dX4_placesOfAll_5 rfl (lv_at hl 0 rfl) ?_
      refine va_get (D := D) (ci := 3) (v := .int (vH 2)) (C := RX4) (T := TX4) (N := 20) hx hb ht0 niX4 hown hK hP 0 rfl rfl 2 (by decide) (ht0 _ wd93) (fun _ h9 => h9) rfl dX4_placesOfAll_6 ?_
      refine lv_icmp_ge (tgt := 26) hx hb dX4_placesOfAll_9 (by decide) (fun c9 => ?_) (fun c9 => ?_)
      · have hok := k_pos c9 hok
        obtain ⟨e4, hok, he4⟩ := ex_some hok
        have hok := hok.trans (congrArg some (hL4 _ he4))
        refine lv_iload_n hx hb dX4_placesOfAll_26 rfl (lv_at hl 1 rfl) ?_
        cases hok
        subst hQe; exact W.iret hx hb hr (fun t ht hW => ⟨⟨_, (), rfl, rfl, by rw [ht]; exact hP, va_K.moved hW.alike hK, hD⟩, hS.F ht⟩) hS.2.2 dX4_placesOfAll_27
      · have hok := k_neg c9 hok
        refine lv_iload_n hx hb dX4_placesOfAll_12 rfl (lv_at hl 1 rfl) ?_
        refine lv_aload_n hx hb dX4_placesOfAll_13 rfl (lv_at hl 0 rfl) ?_
        refine lv_iload_n hx hb dX4_placesOfAll_14 rfl (lv_at hl 2 rfl) ?_
        obtain ⟨r15, hc15, hok⟩ := k_bind hok
        refine kCi (wc := (wX4_placesOf cy aH qH vH vH_places)) (wc2 := (wX4_placesOf cy aH qH vH vH_places)) (wr := []) (ws2 := (wX4_placesOfAll cy aH qH vH vH_places)) (kRunV (As := [.int y2_4]) (rest := [.int y1_4]) ⟨hx, hb, hml, hown, ht0⟩ (kX4_placesOf l D cy _ aH qH vH vH_places y2_4 r15 hc15 _ rfl) (cwV 1 ht0 (gV wd256 wd257 wd258 wd9 wd259) rfl rfl rfl (by decide +kernel) ⟨Nat.le_of_ble_eq_true rfl, Nat.le_of_ble_eq_true rfl⟩) hK hN hP hD [0, 1] rfl (by decide) 0 3 rfl rfl rfl hl.1 rfl (Nat.le_of_ble_eq_true rfl) dX4_placesOfAll_15 ⟨Nat.zero_le _, Nat.zero_le _⟩) hP hD hS hA [0, 1] [] rfl rfl (by decide) (by decide) [0, 1] (by decide) rfl rfl (fun H locs hP hD hS => ?_)
        refine lv_iadd hx hb dX4_placesOfAll_18 ?_
        refine lv_istore_n (lv' := [(1, .int (y1_4 + r15)), (0, .ref aH), (2, .int y2_4)]) hx hb dX4_placesOfAll_19 rfl hl (by decide) rfl (fun ls hl => ?_)
        refine lv_iinc (v := (y2_4 + 1)) (lv' := [(2, .int (y2_4 + 1)), (1, .int (y1_4 + r15)), (0, .ref aH)]) hx hb dX4_placesOfAll_20 hl (k := 2) rfl (by first | rfl | decide) (by decide) rfl (fun ls hl => ?_)
        refine lv_goto (tgt := 4) hx hb dX4_placesOfAll_23 (by decide) ?_
        exact ih4 (y1_4 + r15) (y2_4 + 1) H locs ls hP hD hS (lv_sub hl [2, 1, 0] rfl) (hR4 _ (Option.some.inj hok).symm)
  unfold fX4_placesOfAll at hok
  obtain ⟨H, hH⟩ : ∃ H, H = s.heap := ⟨_, rfl⟩
  obtain ⟨locs, hlc⟩ : ∃ x : List Loc, x = [] := ⟨_, rfl⟩
  have hP : va_P D vwCl (wX4_placesOfAll cy aH qH vH vH_places) H := by rw [hH]; exact hP
  have hS : va_S A s.heap H locs := by rw [hH, hlc]; exact hS
  rw [show W p l e _ s m _ below meth c s.heap [] = W p l e _ s m _ below meth c H locs from by rw [hH, hlc]]
  refine lv_iconst (v := 0) hx hb dX4_placesOfAll_0 (by decide) ?_
  refine lv_istore_n (lv' := [(1, .int 0), (0, .ref aH)]) hx hb dX4_placesOfAll_1 rfl hl (by decide) rfl (fun ls hl => ?_)
  refine lv_iconst (v := 0) hx hb dX4_placesOfAll_2 (by decide) ?_
  refine lv_istore_n (lv' := [(2, .int 0), (1, .int 0), (0, .ref aH)]) hx hb dX4_placesOfAll_3 rfl hl (by decide) rfl (fun ls hl => ?_)
  exact L4 5000 (0 : Int32) (0 : Int32) H locs ls hP hD hS (lv_sub hl [2, 1, 0] rfl) hok
def wsX4_widthOf : List Cond := .code yX4_widthOf cX4_widthOf 2 (some .int) :: W0
abbrev wX4_widthOf (cy : Nat → ClassId) (aH : Nat) (qH : Nat → Nat) (vH : Nat → Int32) (vH_width : Nat → Int32) : va_W := [(aH, oX4 vH qH), (qH 11, rI cy 36 vH_width)]
set_option maxHeartbeats 4000000 in
set_option maxRecDepth 100000 in
theorem kX4_widthOf (l : Launch) (D : va_G) (cy : Nat → ClassId) (sz : Nat) (aH : Nat) (qH : Nat → Nat) (vH : Nat → Int32) (vH_width : Nat → Int32) (x1 : Int32) (zr : Int32) (hok : fX4_widthOf vH vH_width x1 = some zr) (A : Nat → Prop) (hAe : va_A (wX4_widthOf cy aH qH vH vH_width) sz = A) : Met l yX4_widthOf wsX4_widthOf ({ frames := 0, cells := 0, slots := 0, locals := 0 } : Room) (kPre D cy [.ref aH, .int x1] (wX4_widthOf cy aH qH vH vH_width) sz) (kQi D cy zr A (wX4_widthOf cy aH qH vH vH_width)) 0 0 A := by
  refine Met.ofW (cc := cX4_widthOf) (maxL := 2) (ret := (some .int)) (by decide) rfl ?_
  intro p e s m args below meth c s₁ B hml hv
  obtain ⟨rfl, hsz, hP, hK, hD0, hN⟩ := hv
  have hx := B.exec
  have hb := B.bytes
  have hr := B.returns
  have ht0 : ∀ w ∈ W0, w.before _ s = true := fun w h => atoms_spec (ws := wsX4_widthOf) B.pre w (List.mem_cons_of_mem _ h)
  have hown : s.vm.findClass RX4 = some m.cls := findClass_of_methodNamed B.named
  have hlocks := B.notSynchronized
  subst hsz
  have hD : va_D A (wX4_widthOf cy aH qH vH vH_width) := by rw [← hAe]; exact hD0.self
  have hA : ∀ q : Nat, s.heap.size ≤ q → A q := fun q h => by rw [← hAe]; exact Or.inr h
  have hS : va_S A s.heap s.heap [] := va_S.rf
  have hl := lv_entry ([.ref aH, .int x1]) (n := 2) (Nat.le_of_ble_eq_true rfl)
  rw [lg_entry_eq]
  generalize (lg_sl ([.ref aH, .int x1]) ++ List.replicate (2 - (lg_sl ([.ref aH, .int x1])).length) Slot.unset).toArray = ls at hl ⊢
  have hl : lv_has ls 2 [(0, .ref aH), (1, .int x1)] := hl
  generalize hQe : MQ below (kQi D cy zr A (wX4_widthOf cy aH qH vH vH_width)) ([.ref aH, .int x1] : List Value).toArray s 0 0 A = Q
  have J21 : ∀ (t0_21 : Int32), ∀ (H : Heap) (locs : List Loc) (ls : Array Slot), va_P D vwCl (wX4_widthOf cy aH qH vH vH_width) H → va_D A (wX4_widthOf cy aH qH vH vH_width) → va_S A s.heap H locs → lv_has ls 2 [] → fX4_widthOf_J21 t0_21 = some zr → W p l e ({ frames := 0, cells := 0, slots := 0, locals := 0 } : Room) s m ([.ref aH, .int x1] : List Value).toArray below meth c H locs 0 0 Q (F0 m 21 ls [.int t0_21]) := by
    intro t0_21 H locs ls hP hD hS hl hok
    unfold fX4_widthOf_J21 at hok
    cases hok
    subst hQe; exact W.iret hx hb hr (fun t ht hW => ⟨⟨_, (), rfl, rfl, by rw [ht]; exact hP, va_K.moved hW.alike hK, hD⟩, hS.F ht⟩) hS.2.2 dX4_widthOf_21
  have J19 : ∀ (H : Heap) (locs : List Loc) (ls : Array Slot), va_P D vwCl (wX4_widthOf cy aH qH vH vH_width) H → va_D A (wX4_widthOf cy aH qH vH vH_width) → va_S A s.heap H locs → lv_has ls 2 [] → fX4_widthOf_J19 = some zr → W p l e ({ frames := 0, cells := 0, slots := 0, locals := 0 } : Room) s m ([.ref aH, .int x1] : List Value).toArray below meth c H locs 0 0 Q (F0 m 19 ls []) := by
    intro  H locs ls hP hD hS hl hok
    unfold fX4_widthOf_J19 at hok
    refine lv_bipush (v := 10) hx hb dX4_widthOf_19 (by decide) ?_
    exact J21 (10 : Int32) H locs ls hP hD hS (lv_sub hl [] rfl) hok
  unfold fX4_widthOf at hok
  obtain ⟨H, hH⟩ : ∃ H, H = s.heap := ⟨_, rfl⟩
  obtain ⟨locs, hlc⟩ : ∃ x : List Loc, x = [] := ⟨_, rfl⟩
  have hP : va_P D vwCl (wX4_widthOf cy aH qH vH vH_width) H := by rw [hH]; exact hP
  have hS : va_S A s.heap H locs := by rw [hH, hlc]; exact hS
  rw [show W p l e _ s m _ below meth c s.heap [] = W p l e _ s m _ below meth c H locs from by rw [hH, hlc]]
  refine lv_iload_n hx hb dX4_widthOf_0 rfl (lv_at hl 1 rfl) ?_
  refine lv_if_lt (tgt := 19) hx hb dX4_widthOf_1 (by decide) (fun c1 => ?_) (fun c1 => ?_)
  · have hok := k_pos c1 hok
    exact J19  H locs ls hP hD hS (lv_sub hl [] rfl) hok
  · have hok := k_neg c1 hok
    refine lv_iload_n hx hb dX4_widthOf_4 rfl (lv_at hl 1 rfl) ?_
    refine lv_bipush (v := 36) hx hb dX4_widthOf_5 (by decide) ?_
    refine lv_icmp_ge (tgt := 19) hx hb dX4_widthOf_7 (by decide) (fun c7 => ?_) (fun c7 => ?_)
    · have hok := k_pos c7 hok
      exact J19  H locs ls hP hD hS (lv_sub hl [] rfl) hok
    · have hok := k_neg c7 hok
      refine lv_aload_n hx hb dX4_widthOf_10 rfl (lv_at hl 0 rfl) ?_
      refine va_get (D := D) (ci := 3) (v := .ref (qH 11)) (C := RX4) (T := TX4) (N := 20) hx hb ht0 niX4 hown hK hP 0 rfl rfl 11 (by decide) (ht0 _ wd129) (fun _ h9 => h9) rfl dX4_widthOf_11 ?_
      refine lv_iload_n hx hb dX4_widthOf_14 rfl (lv_at hl 1 rfl) ?_
      obtain ⟨g15, hok⟩ := gd_some hok
      refine va_iald hx hb hK hP 1 0 rfl rfl (okI_in g15) dX4_widthOf_15 ?_
      refine lv_goto (tgt := 21) hx hb dX4_widthOf_16 (by decide) ?_
      exact J21 (vH_width x1.toNatClampNeg) H locs ls hP hD hS (lv_sub hl [] rfl) hok
def wsX4_sizeOf : List Cond := .code yX4_sizeOf cX4_sizeOf 2 (some .int) :: W0
abbrev wX4_sizeOf (cy : Nat → ClassId) (aH : Nat) (qH : Nat → Nat) (vH : Nat → Int32) (vH_sizes : Nat → Int32) : va_W := [(aH, oX4 vH qH), (qH 15, rI cy 7 vH_sizes)]
set_option maxHeartbeats 4000000 in
set_option maxRecDepth 100000 in
theorem kX4_sizeOf (l : Launch) (D : va_G) (cy : Nat → ClassId) (sz : Nat) (aH : Nat) (qH : Nat → Nat) (vH : Nat → Int32) (vH_sizes : Nat → Int32) (x1 : Int32) (zr : Int32) (hok : fX4_sizeOf vH vH_sizes x1 = some zr) (A : Nat → Prop) (hAe : va_A (wX4_sizeOf cy aH qH vH vH_sizes) sz = A) : Met l yX4_sizeOf wsX4_sizeOf ({ frames := 0, cells := 0, slots := 0, locals := 0 } : Room) (kPre D cy [.ref aH, .int x1] (wX4_sizeOf cy aH qH vH vH_sizes) sz) (kQi D cy zr A (wX4_sizeOf cy aH qH vH vH_sizes)) 0 0 A := by
  refine Met.ofW (cc := cX4_sizeOf) (maxL := 2) (ret := (some .int)) (by decide) rfl ?_
  intro p e s m args below meth c s₁ B hml hv
  obtain ⟨rfl, hsz, hP, hK, hD0, hN⟩ := hv
  have hx := B.exec
  have hb := B.bytes
  have hr := B.returns
  have ht0 : ∀ w ∈ W0, w.before _ s = true := fun w h => atoms_spec (ws := wsX4_sizeOf) B.pre w (List.mem_cons_of_mem _ h)
  have hown : s.vm.findClass RX4 = some m.cls := findClass_of_methodNamed B.named
  have hlocks := B.notSynchronized
  subst hsz
  have hD : va_D A (wX4_sizeOf cy aH qH vH vH_sizes) := by rw [← hAe]; exact hD0.self
  have hA : ∀ q : Nat, s.heap.size ≤ q → A q := fun q h => by rw [← hAe]; exact Or.inr h
  have hS : va_S A s.heap s.heap [] := va_S.rf
  have hl := lv_entry ([.ref aH, .int x1]) (n := 2) (Nat.le_of_ble_eq_true rfl)
  rw [lg_entry_eq]
  generalize (lg_sl ([.ref aH, .int x1]) ++ List.replicate (2 - (lg_sl ([.ref aH, .int x1])).length) Slot.unset).toArray = ls at hl ⊢
  have hl : lv_has ls 2 [(0, .ref aH), (1, .int x1)] := hl
  generalize hQe : MQ below (kQi D cy zr A (wX4_sizeOf cy aH qH vH vH_sizes)) ([.ref aH, .int x1] : List Value).toArray s 0 0 A = Q
  have J20 : ∀ (t0_20 : Int32), ∀ (H : Heap) (locs : List Loc) (ls : Array Slot), va_P D vwCl (wX4_sizeOf cy aH qH vH vH_sizes) H → va_D A (wX4_sizeOf cy aH qH vH vH_sizes) → va_S A s.heap H locs → lv_has ls 2 [] → fX4_sizeOf_J20 t0_20 = some zr → W p l e ({ frames := 0, cells := 0, slots := 0, locals := 0 } : Room) s m ([.ref aH, .int x1] : List Value).toArray below meth c H locs 0 0 Q (F0 m 20 ls [.int t0_20]) := by
    intro t0_20 H locs ls hP hD hS hl hok
    unfold fX4_sizeOf_J20 at hok
    cases hok
    subst hQe; exact W.iret hx hb hr (fun t ht hW => ⟨⟨_, (), rfl, rfl, by rw [ht]; exact hP, va_K.moved hW.alike hK, hD⟩, hS.F ht⟩) hS.2.2 dX4_sizeOf_20
  have J19 : ∀ (H : Heap) (locs : List Loc) (ls : Array Slot), va_P D vwCl (wX4_sizeOf cy aH qH vH vH_sizes) H → va_D A (wX4_sizeOf cy aH qH vH vH_sizes) → va_S A s.heap H locs → lv_has ls 2 [] → fX4_sizeOf_J19 = some zr → W p l e ({ frames := 0, cells := 0, slots := 0, locals := 0 } : Room) s m ([.ref aH, .int x1] : List Value).toArray below meth c H locs 0 0 Q (F0 m 19 ls []) := by
    intro  H locs ls hP hD hS hl hok
    unfold fX4_sizeOf_J19 at hok
    refine lv_iconst (v := 0) hx hb dX4_sizeOf_19 (by decide) ?_
    exact J20 (0 : Int32) H locs ls hP hD hS (lv_sub hl [] rfl) hok
  unfold fX4_sizeOf at hok
  obtain ⟨H, hH⟩ : ∃ H, H = s.heap := ⟨_, rfl⟩
  obtain ⟨locs, hlc⟩ : ∃ x : List Loc, x = [] := ⟨_, rfl⟩
  have hP : va_P D vwCl (wX4_sizeOf cy aH qH vH vH_sizes) H := by rw [hH]; exact hP
  have hS : va_S A s.heap H locs := by rw [hH, hlc]; exact hS
  rw [show W p l e _ s m _ below meth c s.heap [] = W p l e _ s m _ below meth c H locs from by rw [hH, hlc]]
  refine lv_iload_n hx hb dX4_sizeOf_0 rfl (lv_at hl 1 rfl) ?_
  refine lv_if_lt (tgt := 19) hx hb dX4_sizeOf_1 (by decide) (fun c1 => ?_) (fun c1 => ?_)
  · have hok := k_pos c1 hok
    exact J19  H locs ls hP hD hS (lv_sub hl [] rfl) hok
  · have hok := k_neg c1 hok
    refine lv_iload_n hx hb dX4_sizeOf_4 rfl (lv_at hl 1 rfl) ?_
    refine lv_bipush (v := 7) hx hb dX4_sizeOf_5 (by decide) ?_
    refine lv_icmp_ge (tgt := 19) hx hb dX4_sizeOf_7 (by decide) (fun c7 => ?_) (fun c7 => ?_)
    · have hok := k_pos c7 hok
      exact J19  H locs ls hP hD hS (lv_sub hl [] rfl) hok
    · have hok := k_neg c7 hok
      refine lv_aload_n hx hb dX4_sizeOf_10 rfl (lv_at hl 0 rfl) ?_
      refine va_get (D := D) (ci := 3) (v := .ref (qH 15)) (C := RX4) (T := TX4) (N := 20) hx hb ht0 niX4 hown hK hP 0 rfl rfl 15 (by decide) (ht0 _ wd128) (fun _ h9 => h9) rfl dX4_sizeOf_11 ?_
      refine lv_iload_n hx hb dX4_sizeOf_14 rfl (lv_at hl 1 rfl) ?_
      obtain ⟨g15, hok⟩ := gd_some hok
      refine va_iald hx hb hK hP 1 0 rfl rfl (okI_in g15) dX4_sizeOf_15 ?_
      refine lv_goto (tgt := 20) hx hb dX4_sizeOf_16 (by decide) ?_
      exact J20 (vH_sizes x1.toNatClampNeg) H locs ls hP hD hS (lv_sub hl [] rfl) hok
def wsX4_doorSide : List Cond := .code yX4_doorSide cX4_doorSide 3 (some .int) :: W0
abbrev wX4_doorSide (cy : Nat → ClassId) (aH : Nat) (qH : Nat → Nat) (vH : Nat → Int32) (vH_doorOne : Nat → Int32) (vH_doorTwo : Nat → Int32) : va_W := [(aH, oX4 vH qH), (qH 12, rI cy 5 vH_doorOne), (qH 13, rI cy 5 vH_doorTwo)]
set_option maxHeartbeats 4000000 in
set_option maxRecDepth 100000 in
theorem kX4_doorSide (l : Launch) (D : va_G) (cy : Nat → ClassId) (sz : Nat) (aH : Nat) (qH : Nat → Nat) (vH : Nat → Int32) (vH_doorOne : Nat → Int32) (vH_doorTwo : Nat → Int32) (x1 : Int32) (x2 : Int32) (zr : Int32) (hok : fX4_doorSide vH vH_doorOne vH_doorTwo x1 x2 = some zr) (A : Nat → Prop) (hAe : va_A (wX4_doorSide cy aH qH vH vH_doorOne vH_doorTwo) sz = A) : Met l yX4_doorSide wsX4_doorSide ({ frames := 0, cells := 0, slots := 0, locals := 0 } : Room) (kPre D cy [.ref aH, .int x1, .int x2] (wX4_doorSide cy aH qH vH vH_doorOne vH_doorTwo) sz) (kQi D cy zr A (wX4_doorSide cy aH qH vH vH_doorOne vH_doorTwo)) 0 0 A := by
  refine Met.ofW (cc := cX4_doorSide) (maxL := 3) (ret := (some .int)) (by decide) rfl ?_
  intro p e s m args below meth c s₁ B hml hv
  obtain ⟨rfl, hsz, hP, hK, hD0, hN⟩ := hv
  have hx := B.exec
  have hb := B.bytes
  have hr := B.returns
  have ht0 : ∀ w ∈ W0, w.before _ s = true := fun w h => atoms_spec (ws := wsX4_doorSide) B.pre w (List.mem_cons_of_mem _ h)
  have hown : s.vm.findClass RX4 = some m.cls := findClass_of_methodNamed B.named
  have hlocks := B.notSynchronized
  subst hsz
  have hD : va_D A (wX4_doorSide cy aH qH vH vH_doorOne vH_doorTwo) := by rw [← hAe]; exact hD0.self
  have hA : ∀ q : Nat, s.heap.size ≤ q → A q := fun q h => by rw [← hAe]; exact Or.inr h
  have hS : va_S A s.heap s.heap [] := va_S.rf
  have hl := lv_entry ([.ref aH, .int x1, .int x2]) (n := 3) (Nat.le_of_ble_eq_true rfl)
  rw [lg_entry_eq]
  generalize (lg_sl ([.ref aH, .int x1, .int x2]) ++ List.replicate (3 - (lg_sl ([.ref aH, .int x1, .int x2])).length) Slot.unset).toArray = ls at hl ⊢
  have hl : lv_has ls 3 [(0, .ref aH), (1, .int x1), (2, .int x2)] := hl
  generalize hQe : MQ below (kQi D cy zr A (wX4_doorSide cy aH qH vH vH_doorOne vH_doorTwo)) ([.ref aH, .int x1, .int x2] : List Value).toArray s 0 0 A = Q
  have J38 : ∀ (t0_38 : Int32), ∀ (H : Heap) (locs : List Loc) (ls : Array Slot), va_P D vwCl (wX4_doorSide cy aH qH vH vH_doorOne vH_doorTwo) H → va_D A (wX4_doorSide cy aH qH vH vH_doorOne vH_doorTwo) → va_S A s.heap H locs → lv_has ls 3 [] → fX4_doorSide_J38 t0_38 = some zr → W p l e ({ frames := 0, cells := 0, slots := 0, locals := 0 } : Room) s m ([.ref aH, .int x1, .int x2] : List Value).toArray below meth c H locs 0 0 Q (F0 m 38 ls [.int t0_38]) := by
    intro t0_38 H locs ls hP hD hS hl hok
    unfold fX4_doorSide_J38 at hok
    cases hok
    subst hQe; exact W.iret hx hb hr (fun t ht hW => ⟨⟨_, (), rfl, rfl, by rw [ht]; exact hP, va_K.moved hW.alike hK, hD⟩, hS.F ht⟩) hS.2.2 dX4_doorSide_38
  have J17 : ∀ (H : Heap) (locs : List Loc) (ls : Array Slot), va_P D vwCl (wX4_doorSide cy aH qH vH vH_doorOne vH_doorTwo) H → va_D A (wX4_doorSide cy aH qH vH vH_doorOne vH_doorTwo) → va_S A s.heap H locs → lv_has ls 3 [] → fX4_doorSide_J17 = some zr → W p l e ({ frames := 0, cells := 0, slots := 0, locals := 0 } : Room) s m ([.ref aH, .int x1, .int x2] : List Value).toArray below meth c H locs 0 0 Q (F0 m 17 ls []) := by
    intro  H locs ls hP hD hS hl hok
    unfold fX4_doorSide_J17 at hok
    refine lv_iconst (v := 0) hx hb dX4_doorSide_17 (by decide) ?_
    cases hok
    subst hQe; exact W.iret hx hb hr (fun t ht hW => ⟨⟨_, (), rfl, rfl, by rw [ht]; exact hP, va_K.moved hW.alike hK, hD⟩, hS.F ht⟩) hS.2.2 dX4_doorSide_18
  unfold fX4_doorSide at hok
  obtain ⟨H, hH⟩ : ∃ H, H = s.heap := ⟨_, rfl⟩
  obtain ⟨locs, hlc⟩ : ∃ x : List Loc, x = [] := ⟨_, rfl⟩
  have hP : va_P D vwCl (wX4_doorSide cy aH qH vH vH_doorOne vH_doorTwo) H := by rw [hH]; exact hP
  have hS : va_S A s.heap H locs := by rw [hH, hlc]; exact hS
  rw [show W p l e _ s m _ below meth c s.heap [] = W p l e _ s m _ below meth c H locs from by rw [hH, hlc]]
  refine lv_iload_n hx hb dX4_doorSide_0 rfl (lv_at hl 1 rfl) ?_
  refine lv_if_lt (tgt := 17) hx hb dX4_doorSide_1 (by decide) (fun c1 => ?_) (fun c1 => ?_)
  · have hok := k_pos c1 hok
    exact J17  H locs ls hP hD hS (lv_sub hl [] rfl) hok
  · have hok := k_neg c1 hok
    refine lv_iload_n hx hb dX4_doorSide_4 rfl (lv_at hl 1 rfl) ?_
    refine lv_aload_n hx hb dX4_doorSide_5 rfl (lv_at hl 0 rfl) ?_
    refine va_get (D := D) (ci := 3) (v := .int (vH 4)) (C := RX4) (T := TX4) (N := 20) hx hb ht0 niX4 hown hK hP 0 rfl rfl 4 (by decide) (ht0 _ wd161) (fun _ h9 => h9) rfl dX4_doorSide_6 ?_
    refine lv_icmp_ge (tgt := 17) hx hb dX4_doorSide_9 (by decide) (fun c9 => ?_) (fun c9 => ?_)
    · have hok := k_pos c9 hok
      exact J17  H locs ls hP hD hS (lv_sub hl [] rfl) hok
    · have hok := k_neg c9 hok
      refine lv_iload_n hx hb dX4_doorSide_12 rfl (lv_at hl 1 rfl) ?_
      refine lv_iconst (v := 5) hx hb dX4_doorSide_13 (by decide) ?_
      refine lv_icmp_lt (tgt := 19) hx hb dX4_doorSide_14 (by decide) (fun c14 => ?_) (fun c14 => ?_)
      · have hok := k_pos c14 hok
        refine lv_iload_n hx hb dX4_doorSide_19 rfl (lv_at hl 2 rfl) ?_
        refine lv_if_eq (tgt := 32) hx hb dX4_doorSide_20 (by decide) (fun c20 => ?_) (fun c20 => ?_)
        · have hok := k_pos c20 hok
          refine lv_aload_n hx hb dX4_doorSide_32 rfl (lv_at hl 0 rfl) ?_
          refine va_get (D := D) (ci := 3) (v := .ref (qH 12)) (C := RX4) (T := TX4) (N := 20) hx hb ht0 niX4 hown hK hP 0 rfl rfl 12 (by decide) (ht0 _ wd159) (fun _ h9 => h9) rfl dX4_doorSide_33 ?_
          refine lv_iload_n hx hb dX4_doorSide_36 rfl (lv_at hl 1 rfl) ?_
          obtain ⟨g37, hok⟩ := gd_some hok
          refine va_iald hx hb hK hP 1 0 rfl rfl (okI_in g37) dX4_doorSide_37 ?_
          exact J38 (vH_doorOne x1.toNatClampNeg) H locs ls hP hD hS (lv_sub hl [] rfl) hok
        · have hok := k_neg c20 hok
          refine lv_aload_n hx hb dX4_doorSide_23 rfl (lv_at hl 0 rfl) ?_
          refine va_get (D := D) (ci := 3) (v := .ref (qH 13)) (C := RX4) (T := TX4) (N := 20) hx hb ht0 niX4 hown hK hP 0 rfl rfl 13 (by decide) (ht0 _ wd160) (fun _ h9 => h9) rfl dX4_doorSide_24 ?_
          refine lv_iload_n hx hb dX4_doorSide_27 rfl (lv_at hl 1 rfl) ?_
          obtain ⟨g28, hok⟩ := gd_some hok
          refine va_iald hx hb hK hP 2 0 rfl rfl (okI_in g28) dX4_doorSide_28 ?_
          refine lv_goto (tgt := 38) hx hb dX4_doorSide_29 (by decide) ?_
          exact J38 (vH_doorTwo x1.toNatClampNeg) H locs ls hP hD hS (lv_sub hl [] rfl) hok
      · have hok := k_neg c14 hok
        exact J17  H locs ls hP hD hS (lv_sub hl [] rfl) hok
def wsX4_isTaken : List Cond := .code yX4_isTaken cX4_isTaken 3 (some .boolean) :: W0
abbrev wX4_isTaken (cy : Nat → ClassId) (aH : Nat) (qH : Nat → Nat) (vH : Nat → Int32) (vH_firstCells : Nat → Int32) : va_W := [(aH, oX4 vH qH), (qH 16, rI cy 7 vH_firstCells)]
set_option maxHeartbeats 4000000 in
set_option maxRecDepth 100000 in
theorem kX4_isTaken (l : Launch) (D : va_G) (cy : Nat → ClassId) (sz : Nat) (aH : Nat) (qH : Nat → Nat) (vH : Nat → Int32) (vH_firstCells : Nat → Int32) (x1 : Int32) (zr : Int32) (hok : fX4_isTaken vH vH_firstCells x1 = some zr) (A : Nat → Prop) (hAe : va_A (wX4_isTaken cy aH qH vH vH_firstCells) sz = A) : Met l yX4_isTaken wsX4_isTaken ({ frames := 0, cells := 0, slots := 0, locals := 0 } : Room) (kPre D cy [.ref aH, .int x1] (wX4_isTaken cy aH qH vH vH_firstCells) sz) (kQi D cy zr A (wX4_isTaken cy aH qH vH vH_firstCells)) 0 0 A := by
  refine Met.ofW (cc := cX4_isTaken) (maxL := 3) (ret := (some .boolean)) (by decide) rfl ?_
  intro p e s m args below meth c s₁ B hml hv
  obtain ⟨rfl, hsz, hP, hK, hD0, hN⟩ := hv
  have hx := B.exec
  have hb := B.bytes
  have hr := B.returns
  have ht0 : ∀ w ∈ W0, w.before _ s = true := fun w h => atoms_spec (ws := wsX4_isTaken) B.pre w (List.mem_cons_of_mem _ h)
  have hown : s.vm.findClass RX4 = some m.cls := findClass_of_methodNamed B.named
  have hlocks := B.notSynchronized
  subst hsz
  have hD : va_D A (wX4_isTaken cy aH qH vH vH_firstCells) := by rw [← hAe]; exact hD0.self
  have hA : ∀ q : Nat, s.heap.size ≤ q → A q := fun q h => by rw [← hAe]; exact Or.inr h
  have hS : va_S A s.heap s.heap [] := va_S.rf
  have hl := lv_entry ([.ref aH, .int x1]) (n := 3) (Nat.le_of_ble_eq_true rfl)
  rw [lg_entry_eq]
  generalize (lg_sl ([.ref aH, .int x1]) ++ List.replicate (3 - (lg_sl ([.ref aH, .int x1])).length) Slot.unset).toArray = ls at hl ⊢
  have hl : lv_has ls 3 [(0, .ref aH), (1, .int x1)] := hl
  generalize hQe : MQ below (kQi D cy zr A (wX4_isTaken cy aH qH vH vH_firstCells)) ([.ref aH, .int x1] : List Value).toArray s 0 0 A = Q
  have J34 : ∀ (H : Heap) (locs : List Loc) (ls : Array Slot), va_P D vwCl (wX4_isTaken cy aH qH vH vH_firstCells) H → va_D A (wX4_isTaken cy aH qH vH vH_firstCells) → va_S A s.heap H locs → lv_has ls 3 [] → fX4_isTaken_J34 = some zr → W p l e ({ frames := 0, cells := 0, slots := 0, locals := 0 } : Room) s m ([.ref aH, .int x1] : List Value).toArray below meth c H locs 0 0 Q (F0 m 34 ls []) := by
    intro  H locs ls hP hD hS hl hok
    unfold fX4_isTaken_J34 at hok
    refine lv_iconst (v := 0) hx hb dX4_isTaken_34 (by decide) ?_
    cases hok
    subst hQe; exact W.zret hx hb hr rfl (fun t ht hW => ⟨⟨_, (), rfl, rfl, by rw [ht]; exact hP, va_K.moved hW.alike hK, hD⟩, hS.F ht⟩) hS.2.2 dX4_isTaken_35
  have L2 : ∀ (fuel : Nat) (y2_2 : Int32), ∀ (H : Heap) (locs : List Loc) (ls : Array Slot), va_P D vwCl (wX4_isTaken cy aH qH vH vH_firstCells) H → va_D A (wX4_isTaken cy aH qH vH vH_firstCells) → va_S A s.heap H locs → lv_has ls 3 [(0, .ref aH), (1, .int x1), (2, .int y2_2)] → lp (fX4_isTaken_B2 vH vH_firstCells x1) fuel y2_2 = some zr → W p l e ({ frames := 0, cells := 0, slots := 0, locals := 0 } : Room) s m ([.ref aH, .int x1] : List Value).toArray below meth c H locs 0 0 Q (F0 m 2 ls []) := by
    intro fuel
    induction fuel with
    | zero => intro y2_2 H locs ls hP hD hS hl hok; exact (lp_0 hok).elim
    | succ fuel ih2 =>
      intro y2_2 H locs ls hP hD hS hl hok
      obtain ⟨y2, hok, hL2, hR2⟩ := lp_step hok
      unfold fX4_isTaken_B2 at hok
      refine lv_iload_n hx hb dX4_isTaken_2 rfl (lv_at hl 2 rfl) ?_
      refine lv_aload_n hx hb dX4_isTaken_3 rfl (lv_at hl 0 rfl) ?_
      refine va_get (D := D) (ci := 3) (v := .int (vH 5)) (C := RX4) (T := TX4) (N := 20) hx hb ht0 niX4 hown hK hP 0 rfl rfl 5 (by decide) (ht0 _ wd248) (fun _ h9 => h9) rfl dX4_isTaken_4 ?_
      refine lv_icmp_ge (tgt := 34) hx hb dX4_isTaken_7 (by decide) (fun c7 => ?_) (fun c7 => ?_)
      · have hok := k_pos c7 hok
        obtain ⟨e2, hok, he2⟩ := ex_some hok
        have hok := hok.trans (congrArg some (hL2 _ he2))
        exact J34  H locs ls hP hD hS (lv_sub hl [] rfl) hok
      · have hok := k_neg c7 hok
        refine lv_iload_n hx hb dX4_isTaken_10 rfl (lv_at hl 2 rfl) ?_
        refine lv_bipush (v := 7) hx hb dX4_isTaken_11 (by decide) ?_
        refine lv_icmp_ge (tgt := 34) hx hb dX4_isTaken_13 (by decide) (fun c13 => ?_) (fun c13 => ?_)
        · have hok := k_pos c13 hok
          obtain ⟨e2, hok, he2⟩ := ex_some hok
          have hok := hok.trans (congrArg some (hL2 _ he2))
          exact J34  H locs ls hP hD hS (lv_sub hl [] rfl) hok
        · have hok := k_neg c13 hok
          refine lv_aload_n hx hb dX4_isTaken_16 rfl (lv_at hl 0 rfl) ?_
          refine va_get (D := D) (ci := 3) (v := .ref (qH 16)) (C := RX4) (T := TX4) (N := 20) hx hb ht0 niX4 hown hK hP 0 rfl rfl 16 (by decide) (ht0 _ wd47) (fun _ h9 => h9) rfl dX4_isTaken_17 ?_
          refine lv_iload_n hx hb dX4_isTaken_20 rfl (lv_at hl 2 rfl) ?_
          obtain ⟨g21, hok⟩ := gd_some hok
          refine va_iald hx hb hK hP 1 0 rfl rfl (okI_in g21) dX4_isTaken_21 ?_
          refine lv_iload_n hx hb dX4_isTaken_22 rfl (lv_at hl 1 rfl) ?_
          refine lv_icmp_ne (tgt := 28) hx hb dX4_isTaken_23 (by decide) (fun c23 => ?_) (fun c23 => ?_)
          · have hok := k_neg c23 hok
            refine lv_iinc (v := (y2_2 + 1)) (lv' := [(2, .int (y2_2 + 1)), (0, .ref aH), (1, .int x1)]) hx hb dX4_isTaken_28 hl (k := 2) rfl (by first | rfl | decide) (by decide) rfl (fun ls hl => ?_)
            refine lv_goto (tgt := 2) hx hb dX4_isTaken_31 (by decide) ?_
            exact ih2 (y2_2 + 1) H locs ls hP hD hS (lv_sub hl [1, 2, 0] rfl) (hR2 _ (Option.some.inj hok).symm)
          · have hok := k_pos c23 hok
            obtain ⟨e2, hok, he2⟩ := ex_some hok
            have hok := hok.trans (congrArg some (hL2 _ he2))
            refine lv_iconst (v := 1) hx hb dX4_isTaken_26 (by decide) ?_
            cases hok
            subst hQe; exact W.zret hx hb hr rfl (fun t ht hW => ⟨⟨_, (), rfl, rfl, by rw [ht]; exact hP, va_K.moved hW.alike hK, hD⟩, hS.F ht⟩) hS.2.2 dX4_isTaken_27
  unfold fX4_isTaken at hok
  obtain ⟨H, hH⟩ : ∃ H, H = s.heap := ⟨_, rfl⟩
  obtain ⟨locs, hlc⟩ : ∃ x : List Loc, x = [] := ⟨_, rfl⟩
  have hP : va_P D vwCl (wX4_isTaken cy aH qH vH vH_firstCells) H := by rw [hH]; exact hP
  have hS : va_S A s.heap H locs := by rw [hH, hlc]; exact hS
  rw [show W p l e _ s m _ below meth c s.heap [] = W p l e _ s m _ below meth c H locs from by rw [hH, hlc]]
  refine lv_iconst (v := 0) hx hb dX4_isTaken_0 (by decide) ?_
  refine lv_istore_n (lv' := [(2, .int 0), (0, .ref aH), (1, .int x1)]) hx hb dX4_isTaken_1 rfl hl (by decide) rfl (fun ls hl => ?_)
  exact L2 5000 (0 : Int32) H locs ls hP hD hS (lv_sub hl [1, 2, 0] rfl) hok
def wsX4_hasMark : List Cond := .code yX4_hasMark cX4_hasMark 3 (some .boolean) :: W0
abbrev wX4_hasMark (cy : Nat → ClassId) (aH : Nat) (qH : Nat → Nat) (vH : Nat → Int32) (vH_markNights : Nat → Int32) : va_W := [(aH, oX4 vH qH), (qH 17, rI cy 6 vH_markNights)]
set_option maxHeartbeats 4000000 in
set_option maxRecDepth 100000 in
theorem kX4_hasMark (l : Launch) (D : va_G) (cy : Nat → ClassId) (sz : Nat) (aH : Nat) (qH : Nat → Nat) (vH : Nat → Int32) (vH_markNights : Nat → Int32) (x1 : Int32) (zr : Int32) (hok : fX4_hasMark vH vH_markNights x1 = some zr) (A : Nat → Prop) (hAe : va_A (wX4_hasMark cy aH qH vH vH_markNights) sz = A) : Met l yX4_hasMark wsX4_hasMark ({ frames := 0, cells := 0, slots := 0, locals := 0 } : Room) (kPre D cy [.ref aH, .int x1] (wX4_hasMark cy aH qH vH vH_markNights) sz) (kQi D cy zr A (wX4_hasMark cy aH qH vH vH_markNights)) 0 0 A := by
  refine Met.ofW (cc := cX4_hasMark) (maxL := 3) (ret := (some .boolean)) (by decide) rfl ?_
  intro p e s m args below meth c s₁ B hml hv
  obtain ⟨rfl, hsz, hP, hK, hD0, hN⟩ := hv
  have hx := B.exec
  have hb := B.bytes
  have hr := B.returns
  have ht0 : ∀ w ∈ W0, w.before _ s = true := fun w h => atoms_spec (ws := wsX4_hasMark) B.pre w (List.mem_cons_of_mem _ h)
  have hown : s.vm.findClass RX4 = some m.cls := findClass_of_methodNamed B.named
  have hlocks := B.notSynchronized
  subst hsz
  have hD : va_D A (wX4_hasMark cy aH qH vH vH_markNights) := by rw [← hAe]; exact hD0.self
  have hA : ∀ q : Nat, s.heap.size ≤ q → A q := fun q h => by rw [← hAe]; exact Or.inr h
  have hS : va_S A s.heap s.heap [] := va_S.rf
  have hl := lv_entry ([.ref aH, .int x1]) (n := 3) (Nat.le_of_ble_eq_true rfl)
  rw [lg_entry_eq]
  generalize (lg_sl ([.ref aH, .int x1]) ++ List.replicate (3 - (lg_sl ([.ref aH, .int x1])).length) Slot.unset).toArray = ls at hl ⊢
  have hl : lv_has ls 3 [(0, .ref aH), (1, .int x1)] := hl
  generalize hQe : MQ below (kQi D cy zr A (wX4_hasMark cy aH qH vH vH_markNights)) ([.ref aH, .int x1] : List Value).toArray s 0 0 A = Q
  have J34 : ∀ (H : Heap) (locs : List Loc) (ls : Array Slot), va_P D vwCl (wX4_hasMark cy aH qH vH vH_markNights) H → va_D A (wX4_hasMark cy aH qH vH vH_markNights) → va_S A s.heap H locs → lv_has ls 3 [] → fX4_hasMark_J34 = some zr → W p l e ({ frames := 0, cells := 0, slots := 0, locals := 0 } : Room) s m ([.ref aH, .int x1] : List Value).toArray below meth c H locs 0 0 Q (F0 m 34 ls []) := by
    intro  H locs ls hP hD hS hl hok
    unfold fX4_hasMark_J34 at hok
    refine lv_iconst (v := 0) hx hb dX4_hasMark_34 (by decide) ?_
    cases hok
    subst hQe; exact W.zret hx hb hr rfl (fun t ht hW => ⟨⟨_, (), rfl, rfl, by rw [ht]; exact hP, va_K.moved hW.alike hK, hD⟩, hS.F ht⟩) hS.2.2 dX4_hasMark_35
  have L2 : ∀ (fuel : Nat) (y2_2 : Int32), ∀ (H : Heap) (locs : List Loc) (ls : Array Slot), va_P D vwCl (wX4_hasMark cy aH qH vH vH_markNights) H → va_D A (wX4_hasMark cy aH qH vH vH_markNights) → va_S A s.heap H locs → lv_has ls 3 [(0, .ref aH), (1, .int x1), (2, .int y2_2)] → lp (fX4_hasMark_B2 vH vH_markNights x1) fuel y2_2 = some zr → W p l e ({ frames := 0, cells := 0, slots := 0, locals := 0 } : Room) s m ([.ref aH, .int x1] : List Value).toArray below meth c H locs 0 0 Q (F0 m 2 ls []) := by
    intro fuel
    induction fuel with
    | zero => intro y2_2 H locs ls hP hD hS hl hok; exact (lp_0 hok).elim
    | succ fuel ih2 =>
      intro y2_2 H locs ls hP hD hS hl hok
      obtain ⟨y2, hok, hL2, hR2⟩ := lp_step hok
      unfold fX4_hasMark_B2 at hok
      refine lv_iload_n hx hb dX4_hasMark_2 rfl (lv_at hl 2 rfl) ?_
      refine lv_aload_n hx hb dX4_hasMark_3 rfl (lv_at hl 0 rfl) ?_
      refine va_get (D := D) (ci := 3) (v := .int (vH 6)) (C := RX4) (T := TX4) (N := 20) hx hb ht0 niX4 hown hK hP 0 rfl rfl 6 (by decide) (ht0 _ wd1) (fun _ h9 => h9) rfl dX4_hasMark_4 ?_
      refine lv_icmp_ge (tgt := 34) hx hb dX4_hasMark_7 (by decide) (fun c7 => ?_) (fun c7 => ?_)
      · have hok := k_pos c7 hok
        obtain ⟨e2, hok, he2⟩ := ex_some hok
        have hok := hok.trans (congrArg some (hL2 _ he2))
        exact J34  H locs ls hP hD hS (lv_sub hl [] rfl) hok
      · have hok := k_neg c7 hok
        refine lv_iload_n hx hb dX4_hasMark_10 rfl (lv_at hl 2 rfl) ?_
        refine lv_bipush (v := 6) hx hb dX4_hasMark_11 (by decide) ?_
        refine lv_icmp_ge (tgt := 34) hx hb dX4_hasMark_13 (by decide) (fun c13 => ?_) (fun c13 => ?_)
        · have hok := k_pos c13 hok
          obtain ⟨e2, hok, he2⟩ := ex_some hok
          have hok := hok.trans (congrArg some (hL2 _ he2))
          exact J34  H locs ls hP hD hS (lv_sub hl [] rfl) hok
        · have hok := k_neg c13 hok
          refine lv_aload_n hx hb dX4_hasMark_16 rfl (lv_at hl 0 rfl) ?_
          refine va_get (D := D) (ci := 3) (v := .ref (qH 17)) (C := RX4) (T := TX4) (N := 20) hx hb ht0 niX4 hown hK hP 0 rfl rfl 17 (by decide) (ht0 _ wd2) (fun _ h9 => h9) rfl dX4_hasMark_17 ?_
          refine lv_iload_n hx hb dX4_hasMark_20 rfl (lv_at hl 2 rfl) ?_
          obtain ⟨g21, hok⟩ := gd_some hok
          refine va_iald hx hb hK hP 1 0 rfl rfl (okI_in g21) dX4_hasMark_21 ?_
          refine lv_iload_n hx hb dX4_hasMark_22 rfl (lv_at hl 1 rfl) ?_
          refine lv_icmp_ne (tgt := 28) hx hb dX4_hasMark_23 (by decide) (fun c23 => ?_) (fun c23 => ?_)
          · have hok := k_neg c23 hok
            refine lv_iinc (v := (y2_2 + 1)) (lv' := [(2, .int (y2_2 + 1)), (0, .ref aH), (1, .int x1)]) hx hb dX4_hasMark_28 hl (k := 2) rfl (by first | rfl | decide) (by decide) rfl (fun ls hl => ?_)
            refine lv_goto (tgt := 2) hx hb dX4_hasMark_31 (by decide) ?_
            exact ih2 (y2_2 + 1) H locs ls hP hD hS (lv_sub hl [1, 2, 0] rfl) (hR2 _ (Option.some.inj hok).symm)
          · have hok := k_pos c23 hok
            obtain ⟨e2, hok, he2⟩ := ex_some hok
            have hok := hok.trans (congrArg some (hL2 _ he2))
            refine lv_iconst (v := 1) hx hb dX4_hasMark_26 (by decide) ?_
            cases hok
            subst hQe; exact W.zret hx hb hr rfl (fun t ht hW => ⟨⟨_, (), rfl, rfl, by rw [ht]; exact hP, va_K.moved hW.alike hK, hD⟩, hS.F ht⟩) hS.2.2 dX4_hasMark_27
  unfold fX4_hasMark at hok
  obtain ⟨H, hH⟩ : ∃ H, H = s.heap := ⟨_, rfl⟩
  obtain ⟨locs, hlc⟩ : ∃ x : List Loc, x = [] := ⟨_, rfl⟩
  have hP : va_P D vwCl (wX4_hasMark cy aH qH vH vH_markNights) H := by rw [hH]; exact hP
  have hS : va_S A s.heap H locs := by rw [hH, hlc]; exact hS
  rw [show W p l e _ s m _ below meth c s.heap [] = W p l e _ s m _ below meth c H locs from by rw [hH, hlc]]
  refine lv_iconst (v := 0) hx hb dX4_hasMark_0 (by decide) ?_
  refine lv_istore_n (lv' := [(2, .int 0), (0, .ref aH), (1, .int x1)]) hx hb dX4_hasMark_1 rfl hl (by decide) rfl (fun ls hl => ?_)
  exact L2 5000 (0 : Int32) H locs ls hP hD hS (lv_sub hl [1, 2, 0] rfl) hok
def wsX8_cellAt : List Cond := .code yX8_cellAt cX8_cellAt 2 (some .int) :: W0
abbrev wX8_cellAt (cy : Nat → ClassId)  : va_W := []
set_option maxHeartbeats 4000000 in
set_option maxRecDepth 100000 in
theorem kX8_cellAt (l : Launch) (D : va_G) (cy : Nat → ClassId) (sz : Nat) (x0 : Int32) (x1 : Int32) (zr : Int32) (hok : fX8_cellAt x0 x1 = some zr) (A : Nat → Prop) (hAe : va_A (wX8_cellAt cy ) sz = A) : Met l yX8_cellAt wsX8_cellAt ({ frames := 0, cells := 0, slots := 0, locals := 0 } : Room) (kPre D cy [.int x0, .int x1] (wX8_cellAt cy ) sz) (kQi D cy zr A (wX8_cellAt cy )) 0 0 A := by
  refine Met.ofW (cc := cX8_cellAt) (maxL := 2) (ret := (some .int)) (by decide) rfl ?_
  intro p e s m args below meth c s₁ B hml hv
  obtain ⟨rfl, hsz, hP, hK, hD0, hN⟩ := hv
  have hx := B.exec
  have hb := B.bytes
  have hr := B.returns
  have ht0 : ∀ w ∈ W0, w.before _ s = true := fun w h => atoms_spec (ws := wsX8_cellAt) B.pre w (List.mem_cons_of_mem _ h)
  have hown : s.vm.findClass RX8 = some m.cls := findClass_of_methodNamed B.named
  have hlocks := B.notSynchronized
  subst hsz
  have hD : va_D A (wX8_cellAt cy ) := by rw [← hAe]; exact hD0.self
  have hA : ∀ q : Nat, s.heap.size ≤ q → A q := fun q h => by rw [← hAe]; exact Or.inr h
  have hS : va_S A s.heap s.heap [] := va_S.rf
  have hl := lv_entry ([.int x0, .int x1]) (n := 2) (Nat.le_of_ble_eq_true rfl)
  rw [lg_entry_eq]
  generalize (lg_sl ([.int x0, .int x1]) ++ List.replicate (2 - (lg_sl ([.int x0, .int x1])).length) Slot.unset).toArray = ls at hl ⊢
  have hl : lv_has ls 2 [(0, .int x0), (1, .int x1)] := hl
  unfold fX8_cellAt at hok
  obtain ⟨H, hH⟩ : ∃ H, H = s.heap := ⟨_, rfl⟩
  obtain ⟨locs, hlc⟩ : ∃ x : List Loc, x = [] := ⟨_, rfl⟩
  have hP : va_P D vwCl (wX8_cellAt cy ) H := by rw [hH]; exact hP
  have hS : va_S A s.heap H locs := by rw [hH, hlc]; exact hS
  rw [show W p l e _ s m _ below meth c s.heap [] = W p l e _ s m _ below meth c H locs from by rw [hH, hlc]]
  refine lv_iload_n hx hb dX8_cellAt_0 rfl (lv_at hl 0 rfl) ?_
  refine lv_bipush (v := 9) hx hb dX8_cellAt_1 (by decide) ?_
  refine lv_imul hx hb dX8_cellAt_3 ?_
  refine lv_iload_n hx hb dX8_cellAt_4 rfl (lv_at hl 1 rfl) ?_
  refine lv_iadd hx hb dX8_cellAt_5 ?_
  cases hok
  exact W.iret hx hb hr (fun t ht hW => ⟨⟨_, (), rfl, rfl, by rw [ht]; exact hP, va_K.moved hW.alike hK, hD⟩, hS.F ht⟩) hS.2.2 dX8_cellAt_6
def wsX4_addRing : List Cond := .code yX4_addRing cX4_addRing 6 none :: W0
abbrev wX4_addRing (cy : Nat → ClassId) (aH : Nat) (qH : Nat → Nat) (vH : Nat → Int32) (vH_sorts : Nat → Int32) (vH_places : Nat → Int32) (vH_next : Nat → Int32) : va_W := [(aH, oX4 vH qH), (qH 8, rI cy 4 vH_sorts), (qH 9, rI cy 4 vH_places), (qH 10, rI cy 36 vH_next)]
set_option maxHeartbeats 4000000 in
set_option maxRecDepth 100000 in
theorem kX4_addRing (l : Launch) (D : va_G) (cy : Nat → ClassId) (sz : Nat) (aH : Nat) (qH : Nat → Nat) (vH : Nat → Int32) (vH_sorts : Nat → Int32) (vH_places : Nat → Int32) (vH_next : Nat → Int32) (x1 : Int32) (x2 : Int32) (z_vH : Nat → Int32) (z_vH_sorts : Nat → Int32) (z_vH_places : Nat → Int32) (z_vH_next : Nat → Int32) (hok : fX4_addRing vH vH_sorts vH_places vH_next x1 x2 = some (z_vH, z_vH_sorts, z_vH_places, z_vH_next)) (A : Nat → Prop) (hAe : va_A (wX4_addRing cy aH qH vH vH_sorts vH_places vH_next) sz = A) : Met l yX4_addRing wsX4_addRing ({ frames := 1, cells := 0, slots := 0, locals := 21 } : Room) (kPre D cy [.ref aH, .int x1, .int x2] (wX4_addRing cy aH qH vH vH_sorts vH_places vH_next) sz) (kQv D cy A (wX4_addRing cy aH qH z_vH z_vH_sorts z_vH_places z_vH_next)) 0 0 A := by
  refine Met.ofW (cc := cX4_addRing) (maxL := 6) (ret := none) (by decide) rfl ?_
  intro p e s m args below meth c s₁ B hml hv
  obtain ⟨rfl, hsz, hP, hK, hD0, hN⟩ := hv
  have hx := B.exec
  have hb := B.bytes
  have hr := B.returns
  have ht0 : ∀ w ∈ W0, w.before _ s = true := fun w h => atoms_spec (ws := wsX4_addRing) B.pre w (List.mem_cons_of_mem _ h)
  have hown : s.vm.findClass RX4 = some m.cls := findClass_of_methodNamed B.named
  have hlocks := B.notSynchronized
  subst hsz
  have hD : va_D A (wX4_addRing cy aH qH vH vH_sorts vH_places vH_next) := by rw [← hAe]; exact hD0.self
  have hA : ∀ q : Nat, s.heap.size ≤ q → A q := fun q h => by rw [← hAe]; exact Or.inr h
  have hS : va_S A s.heap s.heap [] := va_S.rf
  have hl := lv_entry ([.ref aH, .int x1, .int x2]) (n := 6) (Nat.le_of_ble_eq_true rfl)
  rw [lg_entry_eq]
  generalize (lg_sl ([.ref aH, .int x1, .int x2]) ++ List.replicate (6 - (lg_sl ([.ref aH, .int x1, .int x2])).length) Slot.unset).toArray = ls at hl ⊢
  have hl : lv_has ls 6 [(0, .ref aH), (1, .int x1), (2, .int x2)] := hl
  generalize hQe : MQ below (kQv D cy A (wX4_addRing cy aH qH z_vH z_vH_sorts z_vH_places z_vH_next)) ([.ref aH, .int x1, .int x2] : List Value).toArray s 0 0 A = Q
  have L29 : ∀ (fuel : Nat) (y3_29 : Int32) (vH_next_29 : Nat → Int32), ∀ (H : Heap) (locs : List Loc) (ls : Array Slot), va_P D vwCl (wX4_addRing cy aH qH vH vH_sorts vH_places vH_next_29) H → va_D A (wX4_addRing cy aH qH vH vH_sorts vH_places vH_next_29) → va_S A s.heap H locs → lv_has ls 6 [(0, .ref aH), (1, .int x1), (2, .int x2), (3, .int y3_29)] → lp (fX4_addRing_B29 vH vH_sorts vH_places x1 x2) fuel (y3_29, vH_next_29) = some (z_vH, z_vH_sorts, z_vH_places, z_vH_next) → W p l e ({ frames := 1, cells := 0, slots := 0, locals := 21 } : Room) s m ([.ref aH, .int x1, .int x2] : List Value).toArray below meth c H locs 0 0 Q (F0 m 29 ls []) := by
    intro fuel
    induction fuel with
    | zero => intro y3_29 vH_next_29 H locs ls hP hD hS hl hok; exact (lp_0 hok).elim
    | succ fuel ih29 =>
      intro y3_29 vH_next_29 H locs ls hP hD hS hl hok
      obtain ⟨y29, hok, hL29, hR29⟩ := lp_step hok
      have J93 : ∀ (t0_93 : Int32) (t2_93 : Int32), ∀ (H : Heap) (locs : List Loc) (ls : Array Slot), va_P D vwCl (wX4_addRing cy aH qH vH vH_sorts vH_places vH_next_29) H → va_D A (wX4_addRing cy aH qH vH vH_sorts vH_places vH_next_29) → va_S A s.heap H locs → lv_has ls 6 [(0, .ref aH), (1, .int x1), (2, .int x2), (3, .int y3_29)] → fX4_addRing_J93 vH y3_29 vH_next_29 t0_93 t2_93 = some y29 → W p l e ({ frames := 1, cells := 0, slots := 0, locals := 21 } : Room) s m ([.ref aH, .int x1, .int x2] : List Value).toArray below meth c H locs 0 0 Q (F0 m 93 ls [.int t0_93, .int (vH 2), .int t2_93, .ref (qH 10)]) := by
        intro t0_93 t2_93 H locs ls hP hD hS hl hok
        unfold fX4_addRing_J93 at hok
        obtain ⟨r93, hc93, hok⟩ := k_bind hok
        refine kCi (wc := (wX8_cellAt cy )) (wc2 := (wX8_cellAt cy )) (wr := [(aH, oX4 vH qH), (qH 8, rI cy 4 vH_sorts), (qH 9, rI cy 4 vH_places), (qH 10, rI cy 36 vH_next_29)]) (ws2 := (wX4_addRing cy aH qH vH vH_sorts vH_places vH_next_29)) (kRunSN (As := [.int (vH 2), .int t0_93]) (rest := [.int t2_93, .ref (qH 10)]) ⟨hx, hb, hml, hown, ht0⟩ (kX8_cellAt l D cy _ (vH 2) t0_93 r93 hc93 _ rfl) ⟨va_cnB 2 ht0 (gN wd260) rfl rfl rfl (hN _ (List.mem_of_getElem? (i := 4) rfl)) (ht0 _ wd57) (by decide +kernel) ⟨Nat.le_of_ble_eq_true rfl, Nat.le_of_ble_eq_true rfl⟩, ht0 _ wd261, trivial⟩ hK hN hP hD [] rfl (by decide) rfl hl.1 rfl (Nat.le_of_ble_eq_true rfl) dX4_addRing_93 ⟨Nat.zero_le _, Nat.zero_le _⟩) hP hD hS hA [] [0, 1, 2, 3] rfl rfl (by decide) (by decide) [0, 1, 2, 3] (by decide) rfl rfl (fun H locs hP hD hS => ?_)
        obtain ⟨g96, hok⟩ := gd_some hok
        refine va_iast hx hb hK hP hD hS 3 0 rfl rfl (okI_in g96) dX4_addRing_96 (fun H locs hP hD hS => ?_)
        have hP : va_P D vwCl (wX4_addRing cy aH qH vH vH_sorts vH_places (upd vH_next_29 t2_93.toNatClampNeg r93)) H := hP
        have hD : va_D A (wX4_addRing cy aH qH vH vH_sorts vH_places (upd vH_next_29 t2_93.toNatClampNeg r93)) := hD
        refine lv_iinc (v := (y3_29 + 1)) (lv' := [(3, .int (y3_29 + 1)), (0, .ref aH), (1, .int x1), (2, .int x2)]) hx hb dX4_addRing_97 hl (k := 3) rfl (by first | rfl | decide) (by decide) rfl (fun ls hl => ?_)
        refine lv_goto (tgt := 29) hx hb dX4_addRing_100 (by decide) ?_
        exact ih29 (y3_29 + 1) (upd vH_next_29 t2_93.toNatClampNeg r93) H locs ls hP hD hS (lv_sub hl [1, 2, 3, 0] rfl) (hR29 _ (Option.some.inj hok).symm)
      have J63 : ∀ (y4_63 : Int32) (t0_63 : Int32), ∀ (H : Heap) (locs : List Loc) (ls : Array Slot), va_P D vwCl (wX4_addRing cy aH qH vH vH_sorts vH_places vH_next_29) H → va_D A (wX4_addRing cy aH qH vH vH_sorts vH_places vH_next_29) → va_S A s.heap H locs → lv_has ls 6 [(0, .ref aH), (1, .int x1), (2, .int x2), (3, .int y3_29), (4, .int y4_63)] → fX4_addRing_J63 vH x1 y3_29 vH_next_29 y4_63 t0_63 = some y29 → W p l e ({ frames := 1, cells := 0, slots := 0, locals := 21 } : Room) s m ([.ref aH, .int x1, .int x2] : List Value).toArray below meth c H locs 0 0 Q (F0 m 63 ls [.int t0_63]) := by
        intro y4_63 t0_63 H locs ls hP hD hS hl hok
        unfold fX4_addRing_J63 at hok
        refine lv_istore (lv' := [(5, .int t0_63), (0, .ref aH), (1, .int x1), (2, .int x2), (3, .int y3_29), (4, .int y4_63)]) hx hb dX4_addRing_63 hl (by decide) rfl (fun ls hl => ?_)
        refine lv_aload_n hx hb dX4_addRing_65 rfl (lv_at hl 1 rfl) ?_
        refine va_get (D := D) (ci := 3) (v := .ref (qH 10)) (C := RX4) (T := TX4) (N := 20) hx hb ht0 niX4 hown hK hP 0 rfl rfl 10 (by decide) (ht0 _ wd127) (fun _ h9 => h9) rfl dX4_addRing_66 ?_
        refine lv_aload_n hx hb dX4_addRing_69 rfl (lv_at hl 1 rfl) ?_
        refine va_get (D := D) (ci := 3) (v := .int (vH 2)) (C := RX4) (T := TX4) (N := 20) hx hb ht0 niX4 hown hK hP 0 rfl rfl 2 (by decide) (ht0 _ wd93) (fun _ h9 => h9) rfl dX4_addRing_70 ?_
        refine lv_iload_n hx hb dX4_addRing_73 rfl (lv_at hl 4 rfl) ?_
        obtain ⟨r74, hc74, hok⟩ := k_bind hok
        refine kCi (wc := (wX8_cellAt cy )) (wc2 := (wX8_cellAt cy )) (wr := [(aH, oX4 vH qH), (qH 8, rI cy 4 vH_sorts), (qH 9, rI cy 4 vH_places), (qH 10, rI cy 36 vH_next_29)]) (ws2 := (wX4_addRing cy aH qH vH vH_sorts vH_places vH_next_29)) (kRunSN (As := [.int (vH 2), .int y3_29]) (rest := [.ref (qH 10)]) ⟨hx, hb, hml, hown, ht0⟩ (kX8_cellAt l D cy _ (vH 2) y3_29 r74 hc74 _ rfl) ⟨va_cnB 2 ht0 (gN wd260) rfl rfl rfl (hN _ (List.mem_of_getElem? (i := 4) rfl)) (ht0 _ wd57) (by decide +kernel) ⟨Nat.le_of_ble_eq_true rfl, Nat.le_of_ble_eq_true rfl⟩, ht0 _ wd261, trivial⟩ hK hN hP hD [] rfl (by decide) rfl hl.1 rfl (Nat.le_of_ble_eq_true rfl) dX4_addRing_74 ⟨Nat.zero_le _, Nat.zero_le _⟩) hP hD hS hA [] [0, 1, 2, 3] rfl rfl (by decide) (by decide) [0, 1, 2, 3] (by decide) rfl rfl (fun H locs hP hD hS => ?_)
        refine lv_aload_n hx hb dX4_addRing_77 rfl (lv_at hl 1 rfl) ?_
        refine va_get (D := D) (ci := 3) (v := .int (vH 2)) (C := RX4) (T := TX4) (N := 20) hx hb ht0 niX4 hown hK hP 0 rfl rfl 2 (by decide) (ht0 _ wd93) (fun _ h9 => h9) rfl dX4_addRing_78 ?_
        refine lv_iload_n hx hb dX4_addRing_81 rfl (lv_at hl 2 rfl) ?_
        refine lv_iconst (v := 2) hx hb dX4_addRing_82 (by decide) ?_
        refine lv_icmp_ne (tgt := 91) hx hb dX4_addRing_83 (by decide) (fun c83 => ?_) (fun c83 => ?_)
        · have hok := k_neg c83 hok
          refine lv_iload hx hb dX4_addRing_91 (lv_at hl 5 rfl) ?_
          exact J93 y4_63 r74 H locs ls hP hD hS (lv_sub hl [1, 2, 3, 4] rfl) hok
        · have hok := k_pos c83 hok
          refine lv_iload hx hb dX4_addRing_86 (lv_at hl 0 rfl) ?_
          refine lv_goto (tgt := 93) hx hb dX4_addRing_88 (by decide) ?_
          exact J93 t0_63 r74 H locs ls hP hD hS (lv_sub hl [1, 2, 3, 4] rfl) hok
      have J48 : ∀ (t0_48 : Int32), ∀ (H : Heap) (locs : List Loc) (ls : Array Slot), va_P D vwCl (wX4_addRing cy aH qH vH vH_sorts vH_places vH_next_29) H → va_D A (wX4_addRing cy aH qH vH vH_sorts vH_places vH_next_29) → va_S A s.heap H locs → lv_has ls 6 [(0, .ref aH), (1, .int x1), (2, .int x2), (3, .int y3_29)] → fX4_addRing_J48 vH x1 x2 y3_29 vH_next_29 t0_48 = some y29 → W p l e ({ frames := 1, cells := 0, slots := 0, locals := 21 } : Room) s m ([.ref aH, .int x1, .int x2] : List Value).toArray below meth c H locs 0 0 Q (F0 m 48 ls [.int t0_48]) := by
        intro t0_48 H locs ls hP hD hS hl hok
        unfold fX4_addRing_J48 at hok
        refine lv_istore (lv' := [(4, .int t0_48), (0, .ref aH), (1, .int x1), (2, .int x2), (3, .int y3_29)]) hx hb dX4_addRing_48 hl (by decide) rfl (fun ls hl => ?_)
        refine lv_iload_n hx hb dX4_addRing_50 rfl (lv_at hl 4 rfl) ?_
        refine lv_if_le (tgt := 60) hx hb dX4_addRing_51 (by decide) (fun c51 => ?_) (fun c51 => ?_)
        · have hok := k_pos c51 hok
          refine lv_iload_n hx hb dX4_addRing_60 rfl (lv_at hl 3 rfl) ?_
          refine lv_iconst (v := 1) hx hb dX4_addRing_61 (by decide) ?_
          refine lv_isub hx hb dX4_addRing_62 ?_
          exact J63 t0_48 (x2 - (1 : Int32)) H locs ls hP hD hS (lv_sub hl [1, 2, 3, 4, 0] rfl) hok
        · have hok := k_neg c51 hok
          refine lv_iload_n hx hb dX4_addRing_54 rfl (lv_at hl 4 rfl) ?_
          refine lv_iconst (v := 1) hx hb dX4_addRing_55 (by decide) ?_
          refine lv_isub hx hb dX4_addRing_56 ?_
          refine lv_goto (tgt := 63) hx hb dX4_addRing_57 (by decide) ?_
          exact J63 t0_48 (y3_29 - (1 : Int32)) H locs ls hP hD hS (lv_sub hl [1, 2, 3, 4, 0] rfl) hok
      unfold fX4_addRing_B29 at hok
      try dsimp only at hok
      refine lv_iload_n hx hb dX4_addRing_29 rfl (lv_at hl 3 rfl) ?_
      refine lv_iload_n hx hb dX4_addRing_30 rfl (lv_at hl 2 rfl) ?_
      refine lv_icmp_ge (tgt := 103) hx hb dX4_addRing_31 (by decide) (fun c31 => ?_) (fun c31 => ?_)
      · have hok := k_pos c31 hok
        obtain ⟨e29, hok, he29⟩ := ex_some hok
        have hok := hok.trans (congrArg some (hL29 _ he29))
        refine lv_aload_n hx hb dX4_addRing_103 rfl (lv_at hl 0 rfl) ?_
        refine va_get (D := D) (ci := 3) (v := .ref (qH 8)) (C := RX4) (T := TX4) (N := 20) hx hb ht0 niX4 hown hK hP 0 rfl rfl 8 (by decide) (ht0 _ wd98) (fun _ h9 => h9) rfl dX4_addRing_104 ?_
        refine lv_aload_n hx hb dX4_addRing_107 rfl (lv_at hl 0 rfl) ?_
        refine va_get (D := D) (ci := 3) (v := .int (vH 2)) (C := RX4) (T := TX4) (N := 20) hx hb ht0 niX4 hown hK hP 0 rfl rfl 2 (by decide) (ht0 _ wd93) (fun _ h9 => h9) rfl dX4_addRing_108 ?_
        refine lv_iload_n hx hb dX4_addRing_111 rfl (lv_at hl 1 rfl) ?_
        obtain ⟨g112, hok⟩ := gd_some hok
        refine va_iast hx hb hK hP hD hS 1 0 rfl rfl (okI_in g112) dX4_addRing_112 (fun H locs hP hD hS => ?_)
        have hP : va_P D vwCl (wX4_addRing cy aH qH vH (upd vH_sorts (vH 2).toNatClampNeg x1) vH_places vH_next_29) H := hP
        have hD : va_D A (wX4_addRing cy aH qH vH (upd vH_sorts (vH 2).toNatClampNeg x1) vH_places vH_next_29) := hD
        refine lv_aload_n hx hb dX4_addRing_113 rfl (lv_at hl 0 rfl) ?_
        refine va_get (D := D) (ci := 3) (v := .ref (qH 9)) (C := RX4) (T := TX4) (N := 20) hx hb ht0 niX4 hown hK hP 0 rfl rfl 9 (by decide) (ht0 _ wd255) (fun _ h9 => h9) rfl dX4_addRing_114 ?_
        refine lv_aload_n hx hb dX4_addRing_117 rfl (lv_at hl 0 rfl) ?_
        refine va_get (D := D) (ci := 3) (v := .int (vH 2)) (C := RX4) (T := TX4) (N := 20) hx hb ht0 niX4 hown hK hP 0 rfl rfl 2 (by decide) (ht0 _ wd93) (fun _ h9 => h9) rfl dX4_addRing_118 ?_
        refine lv_iload_n hx hb dX4_addRing_121 rfl (lv_at hl 2 rfl) ?_
        obtain ⟨g122, hok⟩ := gd_some hok
        refine va_iast hx hb hK hP hD hS 2 0 rfl rfl (okI_in g122) dX4_addRing_122 (fun H locs hP hD hS => ?_)
        have hP : va_P D vwCl (wX4_addRing cy aH qH vH (upd vH_sorts (vH 2).toNatClampNeg x1) (upd vH_places (vH 2).toNatClampNeg x2) vH_next_29) H := hP
        have hD : va_D A (wX4_addRing cy aH qH vH (upd vH_sorts (vH 2).toNatClampNeg x1) (upd vH_places (vH 2).toNatClampNeg x2) vH_next_29) := hD
        refine lv_aload_n hx hb dX4_addRing_123 rfl (lv_at hl 0 rfl) ?_
        refine lv_dup hx hb dX4_addRing_124 rfl ?_
        refine va_get (D := D) (ci := 3) (v := .int (vH 2)) (C := RX4) (T := TX4) (N := 20) hx hb ht0 niX4 hown hK hP 0 rfl rfl 2 (by decide) (ht0 _ wd93) (fun _ h9 => h9) rfl dX4_addRing_125 ?_
        refine lv_iconst (v := 1) hx hb dX4_addRing_128 (by decide) ?_
        refine lv_iadd hx hb dX4_addRing_129 ?_
        refine va_put (D := D) (ci := 3) (v := .int ((vH 2) + (1 : Int32))) (ty := .int) (C := RX4) (T := TX4) (N := 20) hx hb ht0 niX4 tyX4 tyX4_ok nmX4 hown hK hP hD hS 0 rfl rfl 2 (by decide) (ht0 _ wd93) (fun _ h9 => h9) rfl (by decide +kernel) rfl rfl (Nat.le_of_ble_eq_true rfl) dX4_addRing_130 (fun H locs hP hD hS => ?_)
        have hP : va_P D vwCl (wX4_addRing cy aH qH (upd vH 2 ((vH 2) + (1 : Int32))) (upd vH_sorts (vH 2).toNatClampNeg x1) (upd vH_places (vH 2).toNatClampNeg x2) vH_next_29) H := hP
        have hD : va_D A (wX4_addRing cy aH qH (upd vH 2 ((vH 2) + (1 : Int32))) (upd vH_sorts (vH 2).toNatClampNeg x1) (upd vH_places (vH 2).toNatClampNeg x2) vH_next_29) := hD
        cases hok
        subst hQe; exact W.vret hx hb hr (fun t ht hW => ⟨⟨(), rfl, trivial, by rw [ht]; exact hP, va_K.moved hW.alike hK, hD⟩, hS.F ht⟩) hS.2.2 dX4_addRing_133
      · have hok := k_neg c31 hok
        refine lv_iload_n hx hb dX4_addRing_34 rfl (lv_at hl 3 rfl) ?_
        refine lv_iconst (v := 1) hx hb dX4_addRing_35 (by decide) ?_
        refine lv_iadd hx hb dX4_addRing_36 ?_
        refine lv_iload_n hx hb dX4_addRing_37 rfl (lv_at hl 2 rfl) ?_
        refine lv_icmp_ge (tgt := 47) hx hb dX4_addRing_38 (by decide) (fun c38 => ?_) (fun c38 => ?_)
        · have hok := k_pos c38 hok
          refine lv_iconst (v := 0) hx hb dX4_addRing_47 (by decide) ?_
          exact J48 (0 : Int32) H locs ls hP hD hS (lv_sub hl [0, 1, 2, 3] rfl) hok
        · have hok := k_neg c38 hok
          refine lv_iload_n hx hb dX4_addRing_41 rfl (lv_at hl 3 rfl) ?_
          refine lv_iconst (v := 1) hx hb dX4_addRing_42 (by decide) ?_
          refine lv_iadd hx hb dX4_addRing_43 ?_
          refine lv_goto (tgt := 48) hx hb dX4_addRing_44 (by decide) ?_
          exact J48 (y3_29 + (1 : Int32)) H locs ls hP hD hS (lv_sub hl [0, 1, 2, 3] rfl) hok
  have J26 : ∀ (H : Heap) (locs : List Loc) (ls : Array Slot), va_P D vwCl (wX4_addRing cy aH qH vH vH_sorts vH_places vH_next) H → va_D A (wX4_addRing cy aH qH vH vH_sorts vH_places vH_next) → va_S A s.heap H locs → lv_has ls 6 [] → fX4_addRing_J26 vH vH_sorts vH_places vH_next = some (z_vH, z_vH_sorts, z_vH_places, z_vH_next) → W p l e ({ frames := 1, cells := 0, slots := 0, locals := 21 } : Room) s m ([.ref aH, .int x1, .int x2] : List Value).toArray below meth c H locs 0 0 Q (F0 m 26 ls []) := by
    intro  H locs ls hP hD hS hl hok
    unfold fX4_addRing_J26 at hok
    cases hok
    subst hQe; exact W.vret hx hb hr (fun t ht hW => ⟨⟨(), rfl, trivial, by rw [ht]; exact hP, va_K.moved hW.alike hK, hD⟩, hS.F ht⟩) hS.2.2 dX4_addRing_26
  unfold fX4_addRing at hok
  obtain ⟨H, hH⟩ : ∃ H, H = s.heap := ⟨_, rfl⟩
  obtain ⟨locs, hlc⟩ : ∃ x : List Loc, x = [] := ⟨_, rfl⟩
  have hP : va_P D vwCl (wX4_addRing cy aH qH vH vH_sorts vH_places vH_next) H := by rw [hH]; exact hP
  have hS : va_S A s.heap H locs := by rw [hH, hlc]; exact hS
  rw [show W p l e _ s m _ below meth c s.heap [] = W p l e _ s m _ below meth c H locs from by rw [hH, hlc]]
  refine lv_aload_n hx hb dX4_addRing_0 rfl (lv_at hl 0 rfl) ?_
  refine va_get (D := D) (ci := 3) (v := .int (vH 2)) (C := RX4) (T := TX4) (N := 20) hx hb ht0 niX4 hown hK hP 0 rfl rfl 2 (by decide) (ht0 _ wd93) (fun _ h9 => h9) rfl dX4_addRing_1 ?_
  refine lv_if_lt (tgt := 26) hx hb dX4_addRing_4 (by decide) (fun c4 => ?_) (fun c4 => ?_)
  · have hok := k_pos c4 hok
    exact J26  H locs ls hP hD hS (lv_sub hl [] rfl) hok
  · have hok := k_neg c4 hok
    refine lv_aload_n hx hb dX4_addRing_7 rfl (lv_at hl 0 rfl) ?_
    refine va_get (D := D) (ci := 3) (v := .int (vH 2)) (C := RX4) (T := TX4) (N := 20) hx hb ht0 niX4 hown hK hP 0 rfl rfl 2 (by decide) (ht0 _ wd93) (fun _ h9 => h9) rfl dX4_addRing_8 ?_
    refine lv_iconst (v := 4) hx hb dX4_addRing_11 (by decide) ?_
    refine lv_icmp_ge (tgt := 26) hx hb dX4_addRing_12 (by decide) (fun c12 => ?_) (fun c12 => ?_)
    · have hok := k_pos c12 hok
      exact J26  H locs ls hP hD hS (lv_sub hl [] rfl) hok
    · have hok := k_neg c12 hok
      refine lv_iload_n hx hb dX4_addRing_15 rfl (lv_at hl 2 rfl) ?_
      refine lv_iconst (v := 1) hx hb dX4_addRing_16 (by decide) ?_
      refine lv_icmp_lt (tgt := 26) hx hb dX4_addRing_17 (by decide) (fun c17 => ?_) (fun c17 => ?_)
      · have hok := k_pos c17 hok
        exact J26  H locs ls hP hD hS (lv_sub hl [] rfl) hok
      · have hok := k_neg c17 hok
        refine lv_iload_n hx hb dX4_addRing_20 rfl (lv_at hl 2 rfl) ?_
        refine lv_bipush (v := 9) hx hb dX4_addRing_21 (by decide) ?_
        refine lv_icmp_le (tgt := 27) hx hb dX4_addRing_23 (by decide) (fun c23 => ?_) (fun c23 => ?_)
        · have hok := k_pos c23 hok
          refine lv_iconst (v := 0) hx hb dX4_addRing_27 (by decide) ?_
          refine lv_istore_n (lv' := [(3, .int 0), (0, .ref aH), (1, .int x1), (2, .int x2)]) hx hb dX4_addRing_28 rfl hl (by decide) rfl (fun ls hl => ?_)
          exact L29 5000 (0 : Int32) vH_next H locs ls hP hD hS (lv_sub hl [1, 2, 3, 0] rfl) hok
        · have hok := k_neg c23 hok
          exact J26  H locs ls hP hD hS (lv_sub hl [] rfl) hok
def wsX4_addNarrow : List Cond := .code yX4_addNarrow cX4_addNarrow 3 none :: W0
abbrev wX4_addNarrow (cy : Nat → ClassId) (aH : Nat) (qH : Nat → Nat) (vH : Nat → Int32) (vH_width : Nat → Int32) : va_W := [(aH, oX4 vH qH), (qH 11, rI cy 36 vH_width)]
set_option maxHeartbeats 4000000 in
set_option maxRecDepth 100000 in
theorem kX4_addNarrow (l : Launch) (D : va_G) (cy : Nat → ClassId) (sz : Nat) (aH : Nat) (qH : Nat → Nat) (vH : Nat → Int32) (vH_width : Nat → Int32) (x1 : Int32) (x2 : Int32) (z_vH : Nat → Int32) (z_vH_width : Nat → Int32) (hok : fX4_addNarrow vH vH_width x1 x2 = some (z_vH, z_vH_width)) (A : Nat → Prop) (hAe : va_A (wX4_addNarrow cy aH qH vH vH_width) sz = A) : Met l yX4_addNarrow wsX4_addNarrow ({ frames := 0, cells := 0, slots := 0, locals := 0 } : Room) (kPre D cy [.ref aH, .int x1, .int x2] (wX4_addNarrow cy aH qH vH vH_width) sz) (kQv D cy A (wX4_addNarrow cy aH qH z_vH z_vH_width)) 0 0 A := by
  refine Met.ofW (cc := cX4_addNarrow) (maxL := 3) (ret := none) (by decide) rfl ?_
  intro p e s m args below meth c s₁ B hml hv
  obtain ⟨rfl, hsz, hP, hK, hD0, hN⟩ := hv
  have hx := B.exec
  have hb := B.bytes
  have hr := B.returns
  have ht0 : ∀ w ∈ W0, w.before _ s = true := fun w h => atoms_spec (ws := wsX4_addNarrow) B.pre w (List.mem_cons_of_mem _ h)
  have hown : s.vm.findClass RX4 = some m.cls := findClass_of_methodNamed B.named
  have hlocks := B.notSynchronized
  subst hsz
  have hD : va_D A (wX4_addNarrow cy aH qH vH vH_width) := by rw [← hAe]; exact hD0.self
  have hA : ∀ q : Nat, s.heap.size ≤ q → A q := fun q h => by rw [← hAe]; exact Or.inr h
  have hS : va_S A s.heap s.heap [] := va_S.rf
  have hl := lv_entry ([.ref aH, .int x1, .int x2]) (n := 3) (Nat.le_of_ble_eq_true rfl)
  rw [lg_entry_eq]
  generalize (lg_sl ([.ref aH, .int x1, .int x2]) ++ List.replicate (3 - (lg_sl ([.ref aH, .int x1, .int x2])).length) Slot.unset).toArray = ls at hl ⊢
  have hl : lv_has ls 3 [(0, .ref aH), (1, .int x1), (2, .int x2)] := hl
  generalize hQe : MQ below (kQv D cy A (wX4_addNarrow cy aH qH z_vH z_vH_width)) ([.ref aH, .int x1, .int x2] : List Value).toArray s 0 0 A = Q
  have J19 : ∀ (H : Heap) (locs : List Loc) (ls : Array Slot), va_P D vwCl (wX4_addNarrow cy aH qH vH vH_width) H → va_D A (wX4_addNarrow cy aH qH vH vH_width) → va_S A s.heap H locs → lv_has ls 3 [] → fX4_addNarrow_J19 vH vH_width = some (z_vH, z_vH_width) → W p l e ({ frames := 0, cells := 0, slots := 0, locals := 0 } : Room) s m ([.ref aH, .int x1, .int x2] : List Value).toArray below meth c H locs 0 0 Q (F0 m 19 ls []) := by
    intro  H locs ls hP hD hS hl hok
    unfold fX4_addNarrow_J19 at hok
    cases hok
    subst hQe; exact W.vret hx hb hr (fun t ht hW => ⟨⟨(), rfl, trivial, by rw [ht]; exact hP, va_K.moved hW.alike hK, hD⟩, hS.F ht⟩) hS.2.2 dX4_addNarrow_19
  unfold fX4_addNarrow at hok
  obtain ⟨H, hH⟩ : ∃ H, H = s.heap := ⟨_, rfl⟩
  obtain ⟨locs, hlc⟩ : ∃ x : List Loc, x = [] := ⟨_, rfl⟩
  have hP : va_P D vwCl (wX4_addNarrow cy aH qH vH vH_width) H := by rw [hH]; exact hP
  have hS : va_S A s.heap H locs := by rw [hH, hlc]; exact hS
  rw [show W p l e _ s m _ below meth c s.heap [] = W p l e _ s m _ below meth c H locs from by rw [hH, hlc]]
  refine lv_iload_n hx hb dX4_addNarrow_0 rfl (lv_at hl 1 rfl) ?_
  refine lv_if_lt (tgt := 19) hx hb dX4_addNarrow_1 (by decide) (fun c1 => ?_) (fun c1 => ?_)
  · have hok := k_pos c1 hok
    exact J19  H locs ls hP hD hS (lv_sub hl [] rfl) hok
  · have hok := k_neg c1 hok
    refine lv_iload_n hx hb dX4_addNarrow_4 rfl (lv_at hl 1 rfl) ?_
    refine lv_bipush (v := 36) hx hb dX4_addNarrow_5 (by decide) ?_
    refine lv_icmp_ge (tgt := 19) hx hb dX4_addNarrow_7 (by decide) (fun c7 => ?_) (fun c7 => ?_)
    · have hok := k_pos c7 hok
      exact J19  H locs ls hP hD hS (lv_sub hl [] rfl) hok
    · have hok := k_neg c7 hok
      refine lv_aload_n hx hb dX4_addNarrow_10 rfl (lv_at hl 0 rfl) ?_
      refine va_get (D := D) (ci := 3) (v := .int (vH 3)) (C := RX4) (T := TX4) (N := 20) hx hb ht0 niX4 hown hK hP 0 rfl rfl 3 (by decide) (ht0 _ wd247) (fun _ h9 => h9) rfl dX4_addNarrow_11 ?_
      refine lv_bipush (v := 6) hx hb dX4_addNarrow_14 (by decide) ?_
      refine lv_icmp_lt (tgt := 20) hx hb dX4_addNarrow_16 (by decide) (fun c16 => ?_) (fun c16 => ?_)
      · have hok := k_pos c16 hok
        refine lv_aload_n hx hb dX4_addNarrow_20 rfl (lv_at hl 0 rfl) ?_
        refine va_get (D := D) (ci := 3) (v := .ref (qH 11)) (C := RX4) (T := TX4) (N := 20) hx hb ht0 niX4 hown hK hP 0 rfl rfl 11 (by decide) (ht0 _ wd129) (fun _ h9 => h9) rfl dX4_addNarrow_21 ?_
        refine lv_iload_n hx hb dX4_addNarrow_24 rfl (lv_at hl 1 rfl) ?_
        refine lv_iload_n hx hb dX4_addNarrow_25 rfl (lv_at hl 2 rfl) ?_
        obtain ⟨g26, hok⟩ := gd_some hok
        refine va_iast hx hb hK hP hD hS 1 0 rfl rfl (okI_in g26) dX4_addNarrow_26 (fun H locs hP hD hS => ?_)
        have hP : va_P D vwCl (wX4_addNarrow cy aH qH vH (upd vH_width x1.toNatClampNeg x2)) H := hP
        have hD : va_D A (wX4_addNarrow cy aH qH vH (upd vH_width x1.toNatClampNeg x2)) := hD
        refine lv_aload_n hx hb dX4_addNarrow_27 rfl (lv_at hl 0 rfl) ?_
        refine lv_dup hx hb dX4_addNarrow_28 rfl ?_
        refine va_get (D := D) (ci := 3) (v := .int (vH 3)) (C := RX4) (T := TX4) (N := 20) hx hb ht0 niX4 hown hK hP 0 rfl rfl 3 (by decide) (ht0 _ wd247) (fun _ h9 => h9) rfl dX4_addNarrow_29 ?_
        refine lv_iconst (v := 1) hx hb dX4_addNarrow_32 (by decide) ?_
        refine lv_iadd hx hb dX4_addNarrow_33 ?_
        refine va_put (D := D) (ci := 3) (v := .int ((vH 3) + (1 : Int32))) (ty := .int) (C := RX4) (T := TX4) (N := 20) hx hb ht0 niX4 tyX4 tyX4_ok nmX4 hown hK hP hD hS 0 rfl rfl 3 (by decide) (ht0 _ wd247) (fun _ h9 => h9) rfl (by decide +kernel) rfl rfl (Nat.le_of_ble_eq_true rfl) dX4_addNarrow_34 (fun H locs hP hD hS => ?_)
        have hP : va_P D vwCl (wX4_addNarrow cy aH qH (upd vH 3 ((vH 3) + (1 : Int32))) (upd vH_width x1.toNatClampNeg x2)) H := hP
        have hD : va_D A (wX4_addNarrow cy aH qH (upd vH 3 ((vH 3) + (1 : Int32))) (upd vH_width x1.toNatClampNeg x2)) := hD
        cases hok
        subst hQe; exact W.vret hx hb hr (fun t ht hW => ⟨⟨(), rfl, trivial, by rw [ht]; exact hP, va_K.moved hW.alike hK, hD⟩, hS.F ht⟩) hS.2.2 dX4_addNarrow_37
      · have hok := k_neg c16 hok
        exact J19  H locs ls hP hD hS (lv_sub hl [] rfl) hok
def wsX4_addDoor : List Cond := .code yX4_addDoor cX4_addDoor 3 none :: W0
abbrev wX4_addDoor (cy : Nat → ClassId) (aH : Nat) (qH : Nat → Nat) (vH : Nat → Int32) (vH_doorOne : Nat → Int32) (vH_doorTwo : Nat → Int32) : va_W := [(aH, oX4 vH qH), (qH 12, rI cy 5 vH_doorOne), (qH 13, rI cy 5 vH_doorTwo)]
set_option maxHeartbeats 4000000 in
set_option maxRecDepth 100000 in
theorem kX4_addDoor (l : Launch) (D : va_G) (cy : Nat → ClassId) (sz : Nat) (aH : Nat) (qH : Nat → Nat) (vH : Nat → Int32) (vH_doorOne : Nat → Int32) (vH_doorTwo : Nat → Int32) (x1 : Int32) (x2 : Int32) (z_vH : Nat → Int32) (z_vH_doorOne : Nat → Int32) (z_vH_doorTwo : Nat → Int32) (hok : fX4_addDoor vH vH_doorOne vH_doorTwo x1 x2 = some (z_vH, z_vH_doorOne, z_vH_doorTwo)) (A : Nat → Prop) (hAe : va_A (wX4_addDoor cy aH qH vH vH_doorOne vH_doorTwo) sz = A) : Met l yX4_addDoor wsX4_addDoor ({ frames := 0, cells := 0, slots := 0, locals := 0 } : Room) (kPre D cy [.ref aH, .int x1, .int x2] (wX4_addDoor cy aH qH vH vH_doorOne vH_doorTwo) sz) (kQv D cy A (wX4_addDoor cy aH qH z_vH z_vH_doorOne z_vH_doorTwo)) 0 0 A := by
  refine Met.ofW (cc := cX4_addDoor) (maxL := 3) (ret := none) (by decide) rfl ?_
  intro p e s m args below meth c s₁ B hml hv
  obtain ⟨rfl, hsz, hP, hK, hD0, hN⟩ := hv
  have hx := B.exec
  have hb := B.bytes
  have hr := B.returns
  have ht0 : ∀ w ∈ W0, w.before _ s = true := fun w h => atoms_spec (ws := wsX4_addDoor) B.pre w (List.mem_cons_of_mem _ h)
  have hown : s.vm.findClass RX4 = some m.cls := findClass_of_methodNamed B.named
  have hlocks := B.notSynchronized
  subst hsz
  have hD : va_D A (wX4_addDoor cy aH qH vH vH_doorOne vH_doorTwo) := by rw [← hAe]; exact hD0.self
  have hA : ∀ q : Nat, s.heap.size ≤ q → A q := fun q h => by rw [← hAe]; exact Or.inr h
  have hS : va_S A s.heap s.heap [] := va_S.rf
  have hl := lv_entry ([.ref aH, .int x1, .int x2]) (n := 3) (Nat.le_of_ble_eq_true rfl)
  rw [lg_entry_eq]
  generalize (lg_sl ([.ref aH, .int x1, .int x2]) ++ List.replicate (3 - (lg_sl ([.ref aH, .int x1, .int x2])).length) Slot.unset).toArray = ls at hl ⊢
  have hl : lv_has ls 3 [(0, .ref aH), (1, .int x1), (2, .int x2)] := hl
  generalize hQe : MQ below (kQv D cy A (wX4_addDoor cy aH qH z_vH z_vH_doorOne z_vH_doorTwo)) ([.ref aH, .int x1, .int x2] : List Value).toArray s 0 0 A = Q
  have J15 : ∀ (H : Heap) (locs : List Loc) (ls : Array Slot), va_P D vwCl (wX4_addDoor cy aH qH vH vH_doorOne vH_doorTwo) H → va_D A (wX4_addDoor cy aH qH vH vH_doorOne vH_doorTwo) → va_S A s.heap H locs → lv_has ls 3 [] → fX4_addDoor_J15 vH vH_doorOne vH_doorTwo = some (z_vH, z_vH_doorOne, z_vH_doorTwo) → W p l e ({ frames := 0, cells := 0, slots := 0, locals := 0 } : Room) s m ([.ref aH, .int x1, .int x2] : List Value).toArray below meth c H locs 0 0 Q (F0 m 15 ls []) := by
    intro  H locs ls hP hD hS hl hok
    unfold fX4_addDoor_J15 at hok
    cases hok
    subst hQe; exact W.vret hx hb hr (fun t ht hW => ⟨⟨(), rfl, trivial, by rw [ht]; exact hP, va_K.moved hW.alike hK, hD⟩, hS.F ht⟩) hS.2.2 dX4_addDoor_15
  unfold fX4_addDoor at hok
  obtain ⟨H, hH⟩ : ∃ H, H = s.heap := ⟨_, rfl⟩
  obtain ⟨locs, hlc⟩ : ∃ x : List Loc, x = [] := ⟨_, rfl⟩
  have hP : va_P D vwCl (wX4_addDoor cy aH qH vH vH_doorOne vH_doorTwo) H := by rw [hH]; exact hP
  have hS : va_S A s.heap H locs := by rw [hH, hlc]; exact hS
  rw [show W p l e _ s m _ below meth c s.heap [] = W p l e _ s m _ below meth c H locs from by rw [hH, hlc]]
  refine lv_aload_n hx hb dX4_addDoor_0 rfl (lv_at hl 0 rfl) ?_
  refine va_get (D := D) (ci := 3) (v := .int (vH 4)) (C := RX4) (T := TX4) (N := 20) hx hb ht0 niX4 hown hK hP 0 rfl rfl 4 (by decide) (ht0 _ wd161) (fun _ h9 => h9) rfl dX4_addDoor_1 ?_
  refine lv_if_lt (tgt := 15) hx hb dX4_addDoor_4 (by decide) (fun c4 => ?_) (fun c4 => ?_)
  · have hok := k_pos c4 hok
    exact J15  H locs ls hP hD hS (lv_sub hl [] rfl) hok
  · have hok := k_neg c4 hok
    refine lv_aload_n hx hb dX4_addDoor_7 rfl (lv_at hl 0 rfl) ?_
    refine va_get (D := D) (ci := 3) (v := .int (vH 4)) (C := RX4) (T := TX4) (N := 20) hx hb ht0 niX4 hown hK hP 0 rfl rfl 4 (by decide) (ht0 _ wd161) (fun _ h9 => h9) rfl dX4_addDoor_8 ?_
    refine lv_iconst (v := 5) hx hb dX4_addDoor_11 (by decide) ?_
    refine lv_icmp_lt (tgt := 16) hx hb dX4_addDoor_12 (by decide) (fun c12 => ?_) (fun c12 => ?_)
    · have hok := k_pos c12 hok
      refine lv_aload_n hx hb dX4_addDoor_16 rfl (lv_at hl 0 rfl) ?_
      refine va_get (D := D) (ci := 3) (v := .ref (qH 12)) (C := RX4) (T := TX4) (N := 20) hx hb ht0 niX4 hown hK hP 0 rfl rfl 12 (by decide) (ht0 _ wd159) (fun _ h9 => h9) rfl dX4_addDoor_17 ?_
      refine lv_aload_n hx hb dX4_addDoor_20 rfl (lv_at hl 0 rfl) ?_
      refine va_get (D := D) (ci := 3) (v := .int (vH 4)) (C := RX4) (T := TX4) (N := 20) hx hb ht0 niX4 hown hK hP 0 rfl rfl 4 (by decide) (ht0 _ wd161) (fun _ h9 => h9) rfl dX4_addDoor_21 ?_
      refine lv_iload_n hx hb dX4_addDoor_24 rfl (lv_at hl 1 rfl) ?_
      obtain ⟨g25, hok⟩ := gd_some hok
      refine va_iast hx hb hK hP hD hS 1 0 rfl rfl (okI_in g25) dX4_addDoor_25 (fun H locs hP hD hS => ?_)
      have hP : va_P D vwCl (wX4_addDoor cy aH qH vH (upd vH_doorOne (vH 4).toNatClampNeg x1) vH_doorTwo) H := hP
      have hD : va_D A (wX4_addDoor cy aH qH vH (upd vH_doorOne (vH 4).toNatClampNeg x1) vH_doorTwo) := hD
      refine lv_aload_n hx hb dX4_addDoor_26 rfl (lv_at hl 0 rfl) ?_
      refine va_get (D := D) (ci := 3) (v := .ref (qH 13)) (C := RX4) (T := TX4) (N := 20) hx hb ht0 niX4 hown hK hP 0 rfl rfl 13 (by decide) (ht0 _ wd160) (fun _ h9 => h9) rfl dX4_addDoor_27 ?_
      refine lv_aload_n hx hb dX4_addDoor_30 rfl (lv_at hl 0 rfl) ?_
      refine va_get (D := D) (ci := 3) (v := .int (vH 4)) (C := RX4) (T := TX4) (N := 20) hx hb ht0 niX4 hown hK hP 0 rfl rfl 4 (by decide) (ht0 _ wd161) (fun _ h9 => h9) rfl dX4_addDoor_31 ?_
      refine lv_iload_n hx hb dX4_addDoor_34 rfl (lv_at hl 2 rfl) ?_
      obtain ⟨g35, hok⟩ := gd_some hok
      refine va_iast hx hb hK hP hD hS 2 0 rfl rfl (okI_in g35) dX4_addDoor_35 (fun H locs hP hD hS => ?_)
      have hP : va_P D vwCl (wX4_addDoor cy aH qH vH (upd vH_doorOne (vH 4).toNatClampNeg x1) (upd vH_doorTwo (vH 4).toNatClampNeg x2)) H := hP
      have hD : va_D A (wX4_addDoor cy aH qH vH (upd vH_doorOne (vH 4).toNatClampNeg x1) (upd vH_doorTwo (vH 4).toNatClampNeg x2)) := hD
      refine lv_aload_n hx hb dX4_addDoor_36 rfl (lv_at hl 0 rfl) ?_
      refine lv_dup hx hb dX4_addDoor_37 rfl ?_
      refine va_get (D := D) (ci := 3) (v := .int (vH 4)) (C := RX4) (T := TX4) (N := 20) hx hb ht0 niX4 hown hK hP 0 rfl rfl 4 (by decide) (ht0 _ wd161) (fun _ h9 => h9) rfl dX4_addDoor_38 ?_
      refine lv_iconst (v := 1) hx hb dX4_addDoor_41 (by decide) ?_
      refine lv_iadd hx hb dX4_addDoor_42 ?_
      refine va_put (D := D) (ci := 3) (v := .int ((vH 4) + (1 : Int32))) (ty := .int) (C := RX4) (T := TX4) (N := 20) hx hb ht0 niX4 tyX4 tyX4_ok nmX4 hown hK hP hD hS 0 rfl rfl 4 (by decide) (ht0 _ wd161) (fun _ h9 => h9) rfl (by decide +kernel) rfl rfl (Nat.le_of_ble_eq_true rfl) dX4_addDoor_43 (fun H locs hP hD hS => ?_)
      have hP : va_P D vwCl (wX4_addDoor cy aH qH (upd vH 4 ((vH 4) + (1 : Int32))) (upd vH_doorOne (vH 4).toNatClampNeg x1) (upd vH_doorTwo (vH 4).toNatClampNeg x2)) H := hP
      have hD : va_D A (wX4_addDoor cy aH qH (upd vH 4 ((vH 4) + (1 : Int32))) (upd vH_doorOne (vH 4).toNatClampNeg x1) (upd vH_doorTwo (vH 4).toNatClampNeg x2)) := hD
      cases hok
      subst hQe; exact W.vret hx hb hr (fun t ht hW => ⟨⟨(), rfl, trivial, by rw [ht]; exact hP, va_K.moved hW.alike hK, hD⟩, hS.F ht⟩) hS.2.2 dX4_addDoor_46
    · have hok := k_neg c12 hok
      exact J15  H locs ls hP hD hS (lv_sub hl [] rfl) hok
def wsX4_addThing : List Cond := .code yX4_addThing cX4_addThing 4 none :: W0
abbrev wX4_addThing (cy : Nat → ClassId) (aH : Nat) (qH : Nat → Nat) (vH : Nat → Int32) (vH_kinds : Nat → Int32) (vH_firstCells : Nat → Int32) (vH_sizes : Nat → Int32) : va_W := [(aH, oX4 vH qH), (qH 14, rI cy 7 vH_kinds), (qH 16, rI cy 7 vH_firstCells), (qH 15, rI cy 7 vH_sizes)]
set_option maxHeartbeats 4000000 in
set_option maxRecDepth 100000 in
theorem kX4_addThing (l : Launch) (D : va_G) (cy : Nat → ClassId) (sz : Nat) (aH : Nat) (qH : Nat → Nat) (vH : Nat → Int32) (vH_kinds : Nat → Int32) (vH_firstCells : Nat → Int32) (vH_sizes : Nat → Int32) (x1 : Int32) (x2 : Int32) (x3 : Int32) (z_vH : Nat → Int32) (z_vH_kinds : Nat → Int32) (z_vH_firstCells : Nat → Int32) (z_vH_sizes : Nat → Int32) (hok : fX4_addThing vH vH_kinds vH_firstCells vH_sizes x1 x2 x3 = some (z_vH, z_vH_kinds, z_vH_firstCells, z_vH_sizes)) (A : Nat → Prop) (hAe : va_A (wX4_addThing cy aH qH vH vH_kinds vH_firstCells vH_sizes) sz = A) : Met l yX4_addThing wsX4_addThing ({ frames := 0, cells := 0, slots := 0, locals := 0 } : Room) (kPre D cy [.ref aH, .int x1, .int x2, .int x3] (wX4_addThing cy aH qH vH vH_kinds vH_firstCells vH_sizes) sz) (kQv D cy A (wX4_addThing cy aH qH z_vH z_vH_kinds z_vH_firstCells z_vH_sizes)) 0 0 A := by
  refine Met.ofW (cc := cX4_addThing) (maxL := 4) (ret := none) (by decide) rfl ?_
  intro p e s m args below meth c s₁ B hml hv
  obtain ⟨rfl, hsz, hP, hK, hD0, hN⟩ := hv
  have hx := B.exec
  have hb := B.bytes
  have hr := B.returns
  have ht0 : ∀ w ∈ W0, w.before _ s = true := fun w h => atoms_spec (ws := wsX4_addThing) B.pre w (List.mem_cons_of_mem _ h)
  have hown : s.vm.findClass RX4 = some m.cls := findClass_of_methodNamed B.named
  have hlocks := B.notSynchronized
  subst hsz
  have hD : va_D A (wX4_addThing cy aH qH vH vH_kinds vH_firstCells vH_sizes) := by rw [← hAe]; exact hD0.self
  have hA : ∀ q : Nat, s.heap.size ≤ q → A q := fun q h => by rw [← hAe]; exact Or.inr h
  have hS : va_S A s.heap s.heap [] := va_S.rf
  have hl := lv_entry ([.ref aH, .int x1, .int x2, .int x3]) (n := 4) (Nat.le_of_ble_eq_true rfl)
  rw [lg_entry_eq]
  generalize (lg_sl ([.ref aH, .int x1, .int x2, .int x3]) ++ List.replicate (4 - (lg_sl ([.ref aH, .int x1, .int x2, .int x3])).length) Slot.unset).toArray = ls at hl ⊢
  have hl : lv_has ls 4 [(0, .ref aH), (1, .int x1), (2, .int x2), (3, .int x3)] := hl
  generalize hQe : MQ below (kQv D cy A (wX4_addThing cy aH qH z_vH z_vH_kinds z_vH_firstCells z_vH_sizes)) ([.ref aH, .int x1, .int x2, .int x3] : List Value).toArray s 0 0 A = Q
  have J16 : ∀ (H : Heap) (locs : List Loc) (ls : Array Slot), va_P D vwCl (wX4_addThing cy aH qH vH vH_kinds vH_firstCells vH_sizes) H → va_D A (wX4_addThing cy aH qH vH vH_kinds vH_firstCells vH_sizes) → va_S A s.heap H locs → lv_has ls 4 [] → fX4_addThing_J16 vH vH_kinds vH_firstCells vH_sizes = some (z_vH, z_vH_kinds, z_vH_firstCells, z_vH_sizes) → W p l e ({ frames := 0, cells := 0, slots := 0, locals := 0 } : Room) s m ([.ref aH, .int x1, .int x2, .int x3] : List Value).toArray below meth c H locs 0 0 Q (F0 m 16 ls []) := by
    intro  H locs ls hP hD hS hl hok
    unfold fX4_addThing_J16 at hok
    cases hok
    subst hQe; exact W.vret hx hb hr (fun t ht hW => ⟨⟨(), rfl, trivial, by rw [ht]; exact hP, va_K.moved hW.alike hK, hD⟩, hS.F ht⟩) hS.2.2 dX4_addThing_16
  unfold fX4_addThing at hok
  obtain ⟨H, hH⟩ : ∃ H, H = s.heap := ⟨_, rfl⟩
  obtain ⟨locs, hlc⟩ : ∃ x : List Loc, x = [] := ⟨_, rfl⟩
  have hP : va_P D vwCl (wX4_addThing cy aH qH vH vH_kinds vH_firstCells vH_sizes) H := by rw [hH]; exact hP
  have hS : va_S A s.heap H locs := by rw [hH, hlc]; exact hS
  rw [show W p l e _ s m _ below meth c s.heap [] = W p l e _ s m _ below meth c H locs from by rw [hH, hlc]]
  refine lv_aload_n hx hb dX4_addThing_0 rfl (lv_at hl 0 rfl) ?_
  refine va_get (D := D) (ci := 3) (v := .int (vH 5)) (C := RX4) (T := TX4) (N := 20) hx hb ht0 niX4 hown hK hP 0 rfl rfl 5 (by decide) (ht0 _ wd248) (fun _ h9 => h9) rfl dX4_addThing_1 ?_
  refine lv_if_lt (tgt := 16) hx hb dX4_addThing_4 (by decide) (fun c4 => ?_) (fun c4 => ?_)
  · have hok := k_pos c4 hok
    exact J16  H locs ls hP hD hS (lv_sub hl [] rfl) hok
  · have hok := k_neg c4 hok
    refine lv_aload_n hx hb dX4_addThing_7 rfl (lv_at hl 0 rfl) ?_
    refine va_get (D := D) (ci := 3) (v := .int (vH 5)) (C := RX4) (T := TX4) (N := 20) hx hb ht0 niX4 hown hK hP 0 rfl rfl 5 (by decide) (ht0 _ wd248) (fun _ h9 => h9) rfl dX4_addThing_8 ?_
    refine lv_bipush (v := 7) hx hb dX4_addThing_11 (by decide) ?_
    refine lv_icmp_lt (tgt := 17) hx hb dX4_addThing_13 (by decide) (fun c13 => ?_) (fun c13 => ?_)
    · have hok := k_pos c13 hok
      refine lv_aload_n hx hb dX4_addThing_17 rfl (lv_at hl 0 rfl) ?_
      refine va_get (D := D) (ci := 3) (v := .ref (qH 14)) (C := RX4) (T := TX4) (N := 20) hx hb ht0 niX4 hown hK hP 0 rfl rfl 14 (by decide) (ht0 _ wd70) (fun _ h9 => h9) rfl dX4_addThing_18 ?_
      refine lv_aload_n hx hb dX4_addThing_21 rfl (lv_at hl 0 rfl) ?_
      refine va_get (D := D) (ci := 3) (v := .int (vH 5)) (C := RX4) (T := TX4) (N := 20) hx hb ht0 niX4 hown hK hP 0 rfl rfl 5 (by decide) (ht0 _ wd248) (fun _ h9 => h9) rfl dX4_addThing_22 ?_
      refine lv_iload_n hx hb dX4_addThing_25 rfl (lv_at hl 1 rfl) ?_
      obtain ⟨g26, hok⟩ := gd_some hok
      refine va_iast hx hb hK hP hD hS 1 0 rfl rfl (okI_in g26) dX4_addThing_26 (fun H locs hP hD hS => ?_)
      have hP : va_P D vwCl (wX4_addThing cy aH qH vH (upd vH_kinds (vH 5).toNatClampNeg x1) vH_firstCells vH_sizes) H := hP
      have hD : va_D A (wX4_addThing cy aH qH vH (upd vH_kinds (vH 5).toNatClampNeg x1) vH_firstCells vH_sizes) := hD
      refine lv_aload_n hx hb dX4_addThing_27 rfl (lv_at hl 0 rfl) ?_
      refine va_get (D := D) (ci := 3) (v := .ref (qH 16)) (C := RX4) (T := TX4) (N := 20) hx hb ht0 niX4 hown hK hP 0 rfl rfl 16 (by decide) (ht0 _ wd47) (fun _ h9 => h9) rfl dX4_addThing_28 ?_
      refine lv_aload_n hx hb dX4_addThing_31 rfl (lv_at hl 0 rfl) ?_
      refine va_get (D := D) (ci := 3) (v := .int (vH 5)) (C := RX4) (T := TX4) (N := 20) hx hb ht0 niX4 hown hK hP 0 rfl rfl 5 (by decide) (ht0 _ wd248) (fun _ h9 => h9) rfl dX4_addThing_32 ?_
      refine lv_iload_n hx hb dX4_addThing_35 rfl (lv_at hl 2 rfl) ?_
      obtain ⟨g36, hok⟩ := gd_some hok
      refine va_iast hx hb hK hP hD hS 2 0 rfl rfl (okI_in g36) dX4_addThing_36 (fun H locs hP hD hS => ?_)
      have hP : va_P D vwCl (wX4_addThing cy aH qH vH (upd vH_kinds (vH 5).toNatClampNeg x1) (upd vH_firstCells (vH 5).toNatClampNeg x2) vH_sizes) H := hP
      have hD : va_D A (wX4_addThing cy aH qH vH (upd vH_kinds (vH 5).toNatClampNeg x1) (upd vH_firstCells (vH 5).toNatClampNeg x2) vH_sizes) := hD
      refine lv_aload_n hx hb dX4_addThing_37 rfl (lv_at hl 0 rfl) ?_
      refine va_get (D := D) (ci := 3) (v := .ref (qH 15)) (C := RX4) (T := TX4) (N := 20) hx hb ht0 niX4 hown hK hP 0 rfl rfl 15 (by decide) (ht0 _ wd128) (fun _ h9 => h9) rfl dX4_addThing_38 ?_
      refine lv_aload_n hx hb dX4_addThing_41 rfl (lv_at hl 0 rfl) ?_
      refine va_get (D := D) (ci := 3) (v := .int (vH 5)) (C := RX4) (T := TX4) (N := 20) hx hb ht0 niX4 hown hK hP 0 rfl rfl 5 (by decide) (ht0 _ wd248) (fun _ h9 => h9) rfl dX4_addThing_42 ?_
      refine lv_iload_n hx hb dX4_addThing_45 rfl (lv_at hl 3 rfl) ?_
      obtain ⟨g46, hok⟩ := gd_some hok
      refine va_iast hx hb hK hP hD hS 3 0 rfl rfl (okI_in g46) dX4_addThing_46 (fun H locs hP hD hS => ?_)
      have hP : va_P D vwCl (wX4_addThing cy aH qH vH (upd vH_kinds (vH 5).toNatClampNeg x1) (upd vH_firstCells (vH 5).toNatClampNeg x2) (upd vH_sizes (vH 5).toNatClampNeg x3)) H := hP
      have hD : va_D A (wX4_addThing cy aH qH vH (upd vH_kinds (vH 5).toNatClampNeg x1) (upd vH_firstCells (vH 5).toNatClampNeg x2) (upd vH_sizes (vH 5).toNatClampNeg x3)) := hD
      refine lv_aload_n hx hb dX4_addThing_47 rfl (lv_at hl 0 rfl) ?_
      refine lv_dup hx hb dX4_addThing_48 rfl ?_
      refine va_get (D := D) (ci := 3) (v := .int (vH 5)) (C := RX4) (T := TX4) (N := 20) hx hb ht0 niX4 hown hK hP 0 rfl rfl 5 (by decide) (ht0 _ wd248) (fun _ h9 => h9) rfl dX4_addThing_49 ?_
      refine lv_iconst (v := 1) hx hb dX4_addThing_52 (by decide) ?_
      refine lv_iadd hx hb dX4_addThing_53 ?_
      refine va_put (D := D) (ci := 3) (v := .int ((vH 5) + (1 : Int32))) (ty := .int) (C := RX4) (T := TX4) (N := 20) hx hb ht0 niX4 tyX4 tyX4_ok nmX4 hown hK hP hD hS 0 rfl rfl 5 (by decide) (ht0 _ wd248) (fun _ h9 => h9) rfl (by decide +kernel) rfl rfl (Nat.le_of_ble_eq_true rfl) dX4_addThing_54 (fun H locs hP hD hS => ?_)
      have hP : va_P D vwCl (wX4_addThing cy aH qH (upd vH 5 ((vH 5) + (1 : Int32))) (upd vH_kinds (vH 5).toNatClampNeg x1) (upd vH_firstCells (vH 5).toNatClampNeg x2) (upd vH_sizes (vH 5).toNatClampNeg x3)) H := hP
      have hD : va_D A (wX4_addThing cy aH qH (upd vH 5 ((vH 5) + (1 : Int32))) (upd vH_kinds (vH 5).toNatClampNeg x1) (upd vH_firstCells (vH 5).toNatClampNeg x2) (upd vH_sizes (vH 5).toNatClampNeg x3)) := hD
      cases hok
      subst hQe; exact W.vret hx hb hr (fun t ht hW => ⟨⟨(), rfl, trivial, by rw [ht]; exact hP, va_K.moved hW.alike hK, hD⟩, hS.F ht⟩) hS.2.2 dX4_addThing_57
    · have hok := k_neg c13 hok
      exact J16  H locs ls hP hD hS (lv_sub hl [] rfl) hok
def wsX4_addMark : List Cond := .code yX4_addMark cX4_addMark 4 none :: W0
abbrev wX4_addMark (cy : Nat → ClassId) (aH : Nat) (qH : Nat → Nat) (vH : Nat → Int32) (vH_markNights : Nat → Int32) (vH_markPlaces : Nat → Int32) (vH_markFound : Nat → Int32) : va_W := [(aH, oX4 vH qH), (qH 17, rI cy 6 vH_markNights), (qH 18, rI cy 6 vH_markPlaces), (qH 19, rZ cy 6 vH_markFound)]
set_option maxHeartbeats 4000000 in
set_option maxRecDepth 100000 in
theorem kX4_addMark (l : Launch) (D : va_G) (cy : Nat → ClassId) (sz : Nat) (aH : Nat) (qH : Nat → Nat) (vH : Nat → Int32) (vH_markNights : Nat → Int32) (vH_markPlaces : Nat → Int32) (vH_markFound : Nat → Int32) (x1 : Int32) (x2 : Int32) (x3 : Int32) (z_vH : Nat → Int32) (z_vH_markNights : Nat → Int32) (z_vH_markPlaces : Nat → Int32) (z_vH_markFound : Nat → Int32) (hok : fX4_addMark vH vH_markNights vH_markPlaces vH_markFound x1 x2 x3 = some (z_vH, z_vH_markNights, z_vH_markPlaces, z_vH_markFound)) (A : Nat → Prop) (hAe : va_A (wX4_addMark cy aH qH vH vH_markNights vH_markPlaces vH_markFound) sz = A) : Met l yX4_addMark wsX4_addMark ({ frames := 0, cells := 0, slots := 0, locals := 0 } : Room) (kPre D cy [.ref aH, .int x1, .int x2, .int x3] (wX4_addMark cy aH qH vH vH_markNights vH_markPlaces vH_markFound) sz) (kQv D cy A (wX4_addMark cy aH qH z_vH z_vH_markNights z_vH_markPlaces z_vH_markFound)) 0 0 A := by
  refine Met.ofW (cc := cX4_addMark) (maxL := 4) (ret := none) (by decide) rfl ?_
  intro p e s m args below meth c s₁ B hml hv
  obtain ⟨rfl, hsz, hP, hK, hD0, hN⟩ := hv
  have hx := B.exec
  have hb := B.bytes
  have hr := B.returns
  have ht0 : ∀ w ∈ W0, w.before _ s = true := fun w h => atoms_spec (ws := wsX4_addMark) B.pre w (List.mem_cons_of_mem _ h)
  have hown : s.vm.findClass RX4 = some m.cls := findClass_of_methodNamed B.named
  have hlocks := B.notSynchronized
  subst hsz
  have hD : va_D A (wX4_addMark cy aH qH vH vH_markNights vH_markPlaces vH_markFound) := by rw [← hAe]; exact hD0.self
  have hA : ∀ q : Nat, s.heap.size ≤ q → A q := fun q h => by rw [← hAe]; exact Or.inr h
  have hS : va_S A s.heap s.heap [] := va_S.rf
  have hl := lv_entry ([.ref aH, .int x1, .int x2, .int x3]) (n := 4) (Nat.le_of_ble_eq_true rfl)
  rw [lg_entry_eq]
  generalize (lg_sl ([.ref aH, .int x1, .int x2, .int x3]) ++ List.replicate (4 - (lg_sl ([.ref aH, .int x1, .int x2, .int x3])).length) Slot.unset).toArray = ls at hl ⊢
  have hl : lv_has ls 4 [(0, .ref aH), (1, .int x1), (2, .int x2), (3, .int x3)] := hl
  generalize hQe : MQ below (kQv D cy A (wX4_addMark cy aH qH z_vH z_vH_markNights z_vH_markPlaces z_vH_markFound)) ([.ref aH, .int x1, .int x2, .int x3] : List Value).toArray s 0 0 A = Q
  have J16 : ∀ (H : Heap) (locs : List Loc) (ls : Array Slot), va_P D vwCl (wX4_addMark cy aH qH vH vH_markNights vH_markPlaces vH_markFound) H → va_D A (wX4_addMark cy aH qH vH vH_markNights vH_markPlaces vH_markFound) → va_S A s.heap H locs → lv_has ls 4 [] → fX4_addMark_J16 vH vH_markNights vH_markPlaces vH_markFound = some (z_vH, z_vH_markNights, z_vH_markPlaces, z_vH_markFound) → W p l e ({ frames := 0, cells := 0, slots := 0, locals := 0 } : Room) s m ([.ref aH, .int x1, .int x2, .int x3] : List Value).toArray below meth c H locs 0 0 Q (F0 m 16 ls []) := by
    intro  H locs ls hP hD hS hl hok
    unfold fX4_addMark_J16 at hok
    cases hok
    subst hQe; exact W.vret hx hb hr (fun t ht hW => ⟨⟨(), rfl, trivial, by rw [ht]; exact hP, va_K.moved hW.alike hK, hD⟩, hS.F ht⟩) hS.2.2 dX4_addMark_16
  unfold fX4_addMark at hok
  obtain ⟨H, hH⟩ : ∃ H, H = s.heap := ⟨_, rfl⟩
  obtain ⟨locs, hlc⟩ : ∃ x : List Loc, x = [] := ⟨_, rfl⟩
  have hP : va_P D vwCl (wX4_addMark cy aH qH vH vH_markNights vH_markPlaces vH_markFound) H := by rw [hH]; exact hP
  have hS : va_S A s.heap H locs := by rw [hH, hlc]; exact hS
  rw [show W p l e _ s m _ below meth c s.heap [] = W p l e _ s m _ below meth c H locs from by rw [hH, hlc]]
  refine lv_aload_n hx hb dX4_addMark_0 rfl (lv_at hl 0 rfl) ?_
  refine va_get (D := D) (ci := 3) (v := .int (vH 6)) (C := RX4) (T := TX4) (N := 20) hx hb ht0 niX4 hown hK hP 0 rfl rfl 6 (by decide) (ht0 _ wd1) (fun _ h9 => h9) rfl dX4_addMark_1 ?_
  refine lv_if_lt (tgt := 16) hx hb dX4_addMark_4 (by decide) (fun c4 => ?_) (fun c4 => ?_)
  · have hok := k_pos c4 hok
    exact J16  H locs ls hP hD hS (lv_sub hl [] rfl) hok
  · have hok := k_neg c4 hok
    refine lv_aload_n hx hb dX4_addMark_7 rfl (lv_at hl 0 rfl) ?_
    refine va_get (D := D) (ci := 3) (v := .int (vH 6)) (C := RX4) (T := TX4) (N := 20) hx hb ht0 niX4 hown hK hP 0 rfl rfl 6 (by decide) (ht0 _ wd1) (fun _ h9 => h9) rfl dX4_addMark_8 ?_
    refine lv_bipush (v := 6) hx hb dX4_addMark_11 (by decide) ?_
    refine lv_icmp_lt (tgt := 17) hx hb dX4_addMark_13 (by decide) (fun c13 => ?_) (fun c13 => ?_)
    · have hok := k_pos c13 hok
      refine lv_aload_n hx hb dX4_addMark_17 rfl (lv_at hl 0 rfl) ?_
      refine va_get (D := D) (ci := 3) (v := .ref (qH 17)) (C := RX4) (T := TX4) (N := 20) hx hb ht0 niX4 hown hK hP 0 rfl rfl 17 (by decide) (ht0 _ wd2) (fun _ h9 => h9) rfl dX4_addMark_18 ?_
      refine lv_aload_n hx hb dX4_addMark_21 rfl (lv_at hl 0 rfl) ?_
      refine va_get (D := D) (ci := 3) (v := .int (vH 6)) (C := RX4) (T := TX4) (N := 20) hx hb ht0 niX4 hown hK hP 0 rfl rfl 6 (by decide) (ht0 _ wd1) (fun _ h9 => h9) rfl dX4_addMark_22 ?_
      refine lv_iload_n hx hb dX4_addMark_25 rfl (lv_at hl 1 rfl) ?_
      obtain ⟨g26, hok⟩ := gd_some hok
      refine va_iast hx hb hK hP hD hS 1 0 rfl rfl (okI_in g26) dX4_addMark_26 (fun H locs hP hD hS => ?_)
      have hP : va_P D vwCl (wX4_addMark cy aH qH vH (upd vH_markNights (vH 6).toNatClampNeg x1) vH_markPlaces vH_markFound) H := hP
      have hD : va_D A (wX4_addMark cy aH qH vH (upd vH_markNights (vH 6).toNatClampNeg x1) vH_markPlaces vH_markFound) := hD
      refine lv_aload_n hx hb dX4_addMark_27 rfl (lv_at hl 0 rfl) ?_
      refine va_get (D := D) (ci := 3) (v := .ref (qH 18)) (C := RX4) (T := TX4) (N := 20) hx hb ht0 niX4 hown hK hP 0 rfl rfl 18 (by decide) (ht0 _ wd3) (fun _ h9 => h9) rfl dX4_addMark_28 ?_
      refine lv_aload_n hx hb dX4_addMark_31 rfl (lv_at hl 0 rfl) ?_
      refine va_get (D := D) (ci := 3) (v := .int (vH 6)) (C := RX4) (T := TX4) (N := 20) hx hb ht0 niX4 hown hK hP 0 rfl rfl 6 (by decide) (ht0 _ wd1) (fun _ h9 => h9) rfl dX4_addMark_32 ?_
      refine lv_iload_n hx hb dX4_addMark_35 rfl (lv_at hl 2 rfl) ?_
      obtain ⟨g36, hok⟩ := gd_some hok
      refine va_iast hx hb hK hP hD hS 2 0 rfl rfl (okI_in g36) dX4_addMark_36 (fun H locs hP hD hS => ?_)
      have hP : va_P D vwCl (wX4_addMark cy aH qH vH (upd vH_markNights (vH 6).toNatClampNeg x1) (upd vH_markPlaces (vH 6).toNatClampNeg x2) vH_markFound) H := hP
      have hD : va_D A (wX4_addMark cy aH qH vH (upd vH_markNights (vH 6).toNatClampNeg x1) (upd vH_markPlaces (vH 6).toNatClampNeg x2) vH_markFound) := hD
      refine lv_aload_n hx hb dX4_addMark_37 rfl (lv_at hl 0 rfl) ?_
      refine va_get (D := D) (ci := 3) (v := .ref (qH 19)) (C := RX4) (T := TX4) (N := 20) hx hb ht0 niX4 hown hK hP 0 rfl rfl 19 (by decide) (ht0 _ wd0) (fun _ h9 => h9) rfl dX4_addMark_38 ?_
      refine lv_aload_n hx hb dX4_addMark_41 rfl (lv_at hl 0 rfl) ?_
      refine va_get (D := D) (ci := 3) (v := .int (vH 6)) (C := RX4) (T := TX4) (N := 20) hx hb ht0 niX4 hown hK hP 0 rfl rfl 6 (by decide) (ht0 _ wd1) (fun _ h9 => h9) rfl dX4_addMark_42 ?_
      refine lv_iload_n hx hb dX4_addMark_45 rfl (lv_at hl 3 rfl) ?_
      obtain ⟨g46, hok⟩ := gd_some hok
      refine va_zast hx hb hK hP hD hS 3 3 rfl rfl (okI_in g46) dX4_addMark_46 (fun H locs hP hD hS => ?_)
      have hP : va_P D vwCl (wX4_addMark cy aH qH vH (upd vH_markNights (vH 6).toNatClampNeg x1) (upd vH_markPlaces (vH 6).toNatClampNeg x2) (upd vH_markFound (vH 6).toNatClampNeg (vp_nar .boolean x3))) H := hP
      have hD : va_D A (wX4_addMark cy aH qH vH (upd vH_markNights (vH 6).toNatClampNeg x1) (upd vH_markPlaces (vH 6).toNatClampNeg x2) (upd vH_markFound (vH 6).toNatClampNeg (vp_nar .boolean x3))) := hD
      refine lv_aload_n hx hb dX4_addMark_47 rfl (lv_at hl 0 rfl) ?_
      refine lv_dup hx hb dX4_addMark_48 rfl ?_
      refine va_get (D := D) (ci := 3) (v := .int (vH 6)) (C := RX4) (T := TX4) (N := 20) hx hb ht0 niX4 hown hK hP 0 rfl rfl 6 (by decide) (ht0 _ wd1) (fun _ h9 => h9) rfl dX4_addMark_49 ?_
      refine lv_iconst (v := 1) hx hb dX4_addMark_52 (by decide) ?_
      refine lv_iadd hx hb dX4_addMark_53 ?_
      refine va_put (D := D) (ci := 3) (v := .int ((vH 6) + (1 : Int32))) (ty := .int) (C := RX4) (T := TX4) (N := 20) hx hb ht0 niX4 tyX4 tyX4_ok nmX4 hown hK hP hD hS 0 rfl rfl 6 (by decide) (ht0 _ wd1) (fun _ h9 => h9) rfl (by decide +kernel) rfl rfl (Nat.le_of_ble_eq_true rfl) dX4_addMark_54 (fun H locs hP hD hS => ?_)
      have hP : va_P D vwCl (wX4_addMark cy aH qH (upd vH 6 ((vH 6) + (1 : Int32))) (upd vH_markNights (vH 6).toNatClampNeg x1) (upd vH_markPlaces (vH 6).toNatClampNeg x2) (upd vH_markFound (vH 6).toNatClampNeg (vp_nar .boolean x3))) H := hP
      have hD : va_D A (wX4_addMark cy aH qH (upd vH 6 ((vH 6) + (1 : Int32))) (upd vH_markNights (vH 6).toNatClampNeg x1) (upd vH_markPlaces (vH 6).toNatClampNeg x2) (upd vH_markFound (vH 6).toNatClampNeg (vp_nar .boolean x3))) := hD
      cases hok
      subst hQe; exact W.vret hx hb hr (fun t ht hW => ⟨⟨(), rfl, trivial, by rw [ht]; exact hP, va_K.moved hW.alike hK, hD⟩, hS.F ht⟩) hS.2.2 dX4_addMark_57
    · have hok := k_neg c13 hok
      exact J16  H locs ls hP hD hS (lv_sub hl [] rfl) hok
def wsX5_hasRoom : List Cond := .code yX5_hasRoom cX5_hasRoom 2 (some .boolean) :: W0
abbrev wX5_hasRoom (cy : Nat → ClassId) (aR : Nat) (qR : Nat → Nat) (aH : Nat) (fvR_2 : Nat) (vR_j11 : Int64) (vR : Nat → Int32) : va_W := [(aR, oX5 vR qR vR_j11 fvR_2)]
set_option maxHeartbeats 4000000 in
set_option maxRecDepth 100000 in
theorem kX5_hasRoom (l : Launch) (D : va_G) (cy : Nat → ClassId) (sz : Nat) (aR : Nat) (qR : Nat → Nat) (aH : Nat) (vR_j11 : Int64) (vR : Nat → Int32) (x1 : Int32) (zr : Int32) (hok : fX5_hasRoom vR_j11 vR x1 = some zr) (A : Nat → Prop) (hAe : va_A (wX5_hasRoom cy aR qR aH aH vR_j11 vR) sz = A) : Met l yX5_hasRoom wsX5_hasRoom ({ frames := 0, cells := 0, slots := 0, locals := 0 } : Room) (kPre D cy [.ref aR, .int x1] (wX5_hasRoom cy aR qR aH aH vR_j11 vR) sz) (kQi D cy zr A (wX5_hasRoom cy aR qR aH aH vR_j11 vR)) 0 0 A := by
  refine Met.ofW (cc := cX5_hasRoom) (maxL := 2) (ret := (some .boolean)) (by decide) rfl ?_
  intro p e s m args below meth c s₁ B hml hv
  obtain ⟨rfl, hsz, hP, hK, hD0, hN⟩ := hv
  have hx := B.exec
  have hb := B.bytes
  have hr := B.returns
  have ht0 : ∀ w ∈ W0, w.before _ s = true := fun w h => atoms_spec (ws := wsX5_hasRoom) B.pre w (List.mem_cons_of_mem _ h)
  have hown : s.vm.findClass RX5 = some m.cls := findClass_of_methodNamed B.named
  have hlocks := B.notSynchronized
  subst hsz
  have hD : va_D A (wX5_hasRoom cy aR qR aH aH vR_j11 vR) := by rw [← hAe]; exact hD0.self
  have hA : ∀ q : Nat, s.heap.size ≤ q → A q := fun q h => by rw [← hAe]; exact Or.inr h
  have hS : va_S A s.heap s.heap [] := va_S.rf
  have hl := lv_entry ([.ref aR, .int x1]) (n := 2) (Nat.le_of_ble_eq_true rfl)
  rw [lg_entry_eq]
  generalize (lg_sl ([.ref aR, .int x1]) ++ List.replicate (2 - (lg_sl ([.ref aR, .int x1])).length) Slot.unset).toArray = ls at hl ⊢
  have hl : lv_has ls 2 [(0, .ref aR), (1, .int x1)] := hl
  generalize hQe : MQ below (kQi D cy zr A (wX5_hasRoom cy aR qR aH aH vR_j11 vR)) ([.ref aR, .int x1] : List Value).toArray s 0 0 A = Q
  have J17 : ∀ (t0_17 : Int32), ∀ (H : Heap) (locs : List Loc) (ls : Array Slot), va_P D vwCl (wX5_hasRoom cy aR qR aH aH vR_j11 vR) H → va_D A (wX5_hasRoom cy aR qR aH aH vR_j11 vR) → va_S A s.heap H locs → lv_has ls 2 [] → fX5_hasRoom_J17 t0_17 = some zr → W p l e ({ frames := 0, cells := 0, slots := 0, locals := 0 } : Room) s m ([.ref aR, .int x1] : List Value).toArray below meth c H locs 0 0 Q (F0 m 17 ls [.int t0_17]) := by
    intro t0_17 H locs ls hP hD hS hl hok
    unfold fX5_hasRoom_J17 at hok
    obtain ⟨g17, hok⟩ := gd_some hok
    cases hok
    subst hQe; exact W.zret hx hb hr (isB_nar g17) (fun t ht hW => ⟨⟨_, (), rfl, rfl, by rw [ht]; exact hP, va_K.moved hW.alike hK, hD⟩, hS.F ht⟩) hS.2.2 dX5_hasRoom_17
  unfold fX5_hasRoom at hok
  obtain ⟨H, hH⟩ : ∃ H, H = s.heap := ⟨_, rfl⟩
  obtain ⟨locs, hlc⟩ : ∃ x : List Loc, x = [] := ⟨_, rfl⟩
  have hP : va_P D vwCl (wX5_hasRoom cy aR qR aH aH vR_j11 vR) H := by rw [hH]; exact hP
  have hS : va_S A s.heap H locs := by rw [hH, hlc]; exact hS
  rw [show W p l e _ s m _ below meth c s.heap [] = W p l e _ s m _ below meth c H locs from by rw [hH, hlc]]
  refine lv_aload_n hx hb dX5_hasRoom_0 rfl (lv_at hl 0 rfl) ?_
  refine va_get (D := D) (ci := 4) (v := .int (vR 1)) (C := RX5) (T := TX5) (N := 13) hx hb ht0 niX5 hown hK hP 0 rfl rfl 1 (by decide) (ht0 _ wd262) (fun _ h9 => h9) rfl dX5_hasRoom_1 ?_
  refine lv_iload_n hx hb dX5_hasRoom_4 rfl (lv_at hl 1 rfl) ?_
  refine lv_iadd hx hb dX5_hasRoom_5 ?_
  refine lv_sipush (v := 900) hx hb dX5_hasRoom_6 (by decide) ?_
  refine lv_icmp_gt (tgt := 16) hx hb dX5_hasRoom_9 (by decide) (fun c9 => ?_) (fun c9 => ?_)
  · have hok := k_pos c9 hok
    refine lv_iconst (v := 0) hx hb dX5_hasRoom_16 (by decide) ?_
    exact J17 (0 : Int32) H locs ls hP hD hS (lv_sub hl [] rfl) hok
  · have hok := k_neg c9 hok
    refine lv_iconst (v := 1) hx hb dX5_hasRoom_12 (by decide) ?_
    refine lv_goto (tgt := 17) hx hb dX5_hasRoom_13 (by decide) ?_
    exact J17 (1 : Int32) H locs ls hP hD hS (lv_sub hl [] rfl) hok
def wsX5_count : List Cond := .code yX5_count cX5_count 1 (some .int) :: W0
abbrev wX5_count (cy : Nat → ClassId) (aR : Nat) (qR : Nat → Nat) (aH : Nat) (fvR_2 : Nat) (vR_j11 : Int64) (vR : Nat → Int32) : va_W := [(aR, oX5 vR qR vR_j11 fvR_2)]
set_option maxHeartbeats 4000000 in
set_option maxRecDepth 100000 in
theorem kX5_count (l : Launch) (D : va_G) (cy : Nat → ClassId) (sz : Nat) (aR : Nat) (qR : Nat → Nat) (aH : Nat) (vR_j11 : Int64) (vR : Nat → Int32) (zr : Int32) (hok : fX5_count vR_j11 vR = some zr) (A : Nat → Prop) (hAe : va_A (wX5_count cy aR qR aH aH vR_j11 vR) sz = A) : Met l yX5_count wsX5_count ({ frames := 0, cells := 0, slots := 0, locals := 0 } : Room) (kPre D cy [.ref aR] (wX5_count cy aR qR aH aH vR_j11 vR) sz) (kQi D cy zr A (wX5_count cy aR qR aH aH vR_j11 vR)) 0 0 A := by
  refine Met.ofW (cc := cX5_count) (maxL := 1) (ret := (some .int)) (by decide) rfl ?_
  intro p e s m args below meth c s₁ B hml hv
  obtain ⟨rfl, hsz, hP, hK, hD0, hN⟩ := hv
  have hx := B.exec
  have hb := B.bytes
  have hr := B.returns
  have ht0 : ∀ w ∈ W0, w.before _ s = true := fun w h => atoms_spec (ws := wsX5_count) B.pre w (List.mem_cons_of_mem _ h)
  have hown : s.vm.findClass RX5 = some m.cls := findClass_of_methodNamed B.named
  have hlocks := B.notSynchronized
  subst hsz
  have hD : va_D A (wX5_count cy aR qR aH aH vR_j11 vR) := by rw [← hAe]; exact hD0.self
  have hA : ∀ q : Nat, s.heap.size ≤ q → A q := fun q h => by rw [← hAe]; exact Or.inr h
  have hS : va_S A s.heap s.heap [] := va_S.rf
  have hl := lv_entry ([.ref aR]) (n := 1) (Nat.le_of_ble_eq_true rfl)
  rw [lg_entry_eq]
  generalize (lg_sl ([.ref aR]) ++ List.replicate (1 - (lg_sl ([.ref aR])).length) Slot.unset).toArray = ls at hl ⊢
  have hl : lv_has ls 1 [(0, .ref aR)] := hl
  unfold fX5_count at hok
  obtain ⟨H, hH⟩ : ∃ H, H = s.heap := ⟨_, rfl⟩
  obtain ⟨locs, hlc⟩ : ∃ x : List Loc, x = [] := ⟨_, rfl⟩
  have hP : va_P D vwCl (wX5_count cy aR qR aH aH vR_j11 vR) H := by rw [hH]; exact hP
  have hS : va_S A s.heap H locs := by rw [hH, hlc]; exact hS
  rw [show W p l e _ s m _ below meth c s.heap [] = W p l e _ s m _ below meth c H locs from by rw [hH, hlc]]
  refine lv_aload_n hx hb dX5_count_0 rfl (lv_at hl 0 rfl) ?_
  refine va_get (D := D) (ci := 4) (v := .int (vR 1)) (C := RX5) (T := TX5) (N := 13) hx hb ht0 niX5 hown hK hP 0 rfl rfl 1 (by decide) (ht0 _ wd262) (fun _ h9 => h9) rfl dX5_count_1 ?_
  cases hok
  exact W.iret hx hb hr (fun t ht hW => ⟨⟨_, (), rfl, rfl, by rw [ht]; exact hP, va_K.moved hW.alike hK, hD⟩, hS.F ht⟩) hS.2.2 dX5_count_4
def wsX5_append : List Cond := .code yX5_append cX5_append 3 none :: W0
abbrev wX5_append (cy : Nat → ClassId) (aR : Nat) (qR : Nat → Nat) (aH : Nat) (fvR_2 : Nat) (vR_j11 : Int64) (vR : Nat → Int32) (vR_tape : Nat → Int32) : va_W := [(aR, oX5 vR qR vR_j11 fvR_2), (qR 0, rB cy 900 vR_tape)]
set_option maxHeartbeats 4000000 in
set_option maxRecDepth 100000 in
theorem kX5_append (l : Launch) (D : va_G) (cy : Nat → ClassId) (sz : Nat) (aR : Nat) (qR : Nat → Nat) (aH : Nat) (vR_j11 : Int64) (vR : Nat → Int32) (vR_tape : Nat → Int32) (x1 : Int32) (z_vR : Nat → Int32) (z_vR_tape : Nat → Int32) (hok : fX5_append vR_j11 vR vR_tape x1 = some (z_vR, z_vR_tape)) (A : Nat → Prop) (hAe : va_A (wX5_append cy aR qR aH aH vR_j11 vR vR_tape) sz = A) : Met l yX5_append wsX5_append ({ frames := 0, cells := 0, slots := 0, locals := 0 } : Room) (kPre D cy [.ref aR, .int x1] (wX5_append cy aR qR aH aH vR_j11 vR vR_tape) sz) (kQv D cy A (wX5_append cy aR qR aH aH vR_j11 z_vR z_vR_tape)) 0 0 A := by
  refine Met.ofW (cc := cX5_append) (maxL := 3) (ret := none) (by decide) rfl ?_
  intro p e s m args below meth c s₁ B hml hv
  obtain ⟨rfl, hsz, hP, hK, hD0, hN⟩ := hv
  have hx := B.exec
  have hb := B.bytes
  have hr := B.returns
  have ht0 : ∀ w ∈ W0, w.before _ s = true := fun w h => atoms_spec (ws := wsX5_append) B.pre w (List.mem_cons_of_mem _ h)
  have hown : s.vm.findClass RX5 = some m.cls := findClass_of_methodNamed B.named
  have hlocks := B.notSynchronized
  subst hsz
  have hD : va_D A (wX5_append cy aR qR aH aH vR_j11 vR vR_tape) := by rw [← hAe]; exact hD0.self
  have hA : ∀ q : Nat, s.heap.size ≤ q → A q := fun q h => by rw [← hAe]; exact Or.inr h
  have hS : va_S A s.heap s.heap [] := va_S.rf
  have hl := lv_entry ([.ref aR, .int x1]) (n := 3) (Nat.le_of_ble_eq_true rfl)
  rw [lg_entry_eq]
  generalize (lg_sl ([.ref aR, .int x1]) ++ List.replicate (3 - (lg_sl ([.ref aR, .int x1])).length) Slot.unset).toArray = ls at hl ⊢
  have hl : lv_has ls 3 [(0, .ref aR), (1, .int x1)] := hl
  generalize hQe : MQ below (kQv D cy A (wX5_append cy aR qR aH aH vR_j11 z_vR z_vR_tape)) ([.ref aR, .int x1] : List Value).toArray s 0 0 A = Q
  have L3 : ∀ (fuel : Nat) (y2_3 : Int32) (vR_tape_3 : Nat → Int32) (vR_3 : Nat → Int32), ∀ (H : Heap) (locs : List Loc) (ls : Array Slot), va_P D vwCl (wX5_append cy aR qR aH aH vR_j11 vR_3 vR_tape_3) H → va_D A (wX5_append cy aR qR aH aH vR_j11 vR_3 vR_tape_3) → va_S A s.heap H locs → lv_has ls 3 [(0, .ref aR), (1, .int x1), (2, .int y2_3)] → lp (fX5_append_B3 x1) fuel (y2_3, vR_tape_3, vR_3) = some (z_vR, z_vR_tape) → W p l e ({ frames := 0, cells := 0, slots := 0, locals := 0 } : Room) s m ([.ref aR, .int x1] : List Value).toArray below meth c H locs 0 0 Q (F0 m 3 ls []) := by
    intro fuel
    induction fuel with
    | zero => intro y2_3 vR_tape_3 vR_3 H locs ls hP hD hS hl hok; exact (lp_0 hok).elim
    | succ fuel ih3 =>
      intro y2_3 vR_tape_3 vR_3 H locs ls hP hD hS hl hok
      obtain ⟨y3, hok, hL3, hR3⟩ := lp_step hok
      have J47 : ∀ (vR_tape_47 : Nat → Int32) (vR_47 : Nat → Int32), ∀ (H : Heap) (locs : List Loc) (ls : Array Slot), va_P D vwCl (wX5_append cy aR qR aH aH vR_j11 vR_47 vR_tape_47) H → va_D A (wX5_append cy aR qR aH aH vR_j11 vR_47 vR_tape_47) → va_S A s.heap H locs → lv_has ls 3 [(0, .ref aR), (1, .int x1), (2, .int y2_3)] → fX5_append_J47 y2_3 vR_tape_47 vR_47 = some y3 → W p l e ({ frames := 0, cells := 0, slots := 0, locals := 0 } : Room) s m ([.ref aR, .int x1] : List Value).toArray below meth c H locs 0 0 Q (F0 m 47 ls []) := by
        intro vR_tape_47 vR_47 H locs ls hP hD hS hl hok
        unfold fX5_append_J47 at hok
        refine lv_iinc (v := (y2_3 + (-8))) (lv' := [(2, .int (y2_3 + (-8))), (0, .ref aR), (1, .int x1)]) hx hb dX5_append_47 hl (k := 2) rfl (by first | rfl | decide) (by decide) rfl (fun ls hl => ?_)
        refine lv_goto (tgt := 3) hx hb dX5_append_50 (by decide) ?_
        exact ih3 (y2_3 + (-8)) vR_tape_47 vR_47 H locs ls hP hD hS (lv_sub hl [1, 2, 0] rfl) (hR3 _ (Option.some.inj hok).symm)
      unfold fX5_append_B3 at hok
      try dsimp only at hok
      refine lv_iload_n hx hb dX5_append_3 rfl (lv_at hl 2 rfl) ?_
      refine lv_if_lt (tgt := 53) hx hb dX5_append_4 (by decide) (fun c4 => ?_) (fun c4 => ?_)
      · have hok := k_pos c4 hok
        obtain ⟨e3, hok, he3⟩ := ex_some hok
        have hok := hok.trans (congrArg some (hL3 _ he3))
        cases hok
        subst hQe; exact W.vret hx hb hr (fun t ht hW => ⟨⟨(), rfl, trivial, by rw [ht]; exact hP, va_K.moved hW.alike hK, hD⟩, hS.F ht⟩) hS.2.2 dX5_append_53
      · have hok := k_neg c4 hok
        refine lv_aload_n hx hb dX5_append_7 rfl (lv_at hl 0 rfl) ?_
        refine va_get (D := D) (ci := 4) (v := .int (vR_3 1)) (C := RX5) (T := TX5) (N := 13) hx hb ht0 niX5 hown hK hP 0 rfl rfl 1 (by decide) (ht0 _ wd262) (fun _ h9 => h9) rfl dX5_append_8 ?_
        refine lv_if_lt (tgt := 47) hx hb dX5_append_11 (by decide) (fun c11 => ?_) (fun c11 => ?_)
        · have hok := k_pos c11 hok
          exact J47 vR_tape_3 vR_3 H locs ls hP hD hS (lv_sub hl [0, 1, 2] rfl) hok
        · have hok := k_neg c11 hok
          refine lv_aload_n hx hb dX5_append_14 rfl (lv_at hl 0 rfl) ?_
          refine va_get (D := D) (ci := 4) (v := .int (vR_3 1)) (C := RX5) (T := TX5) (N := 13) hx hb ht0 niX5 hown hK hP 0 rfl rfl 1 (by decide) (ht0 _ wd262) (fun _ h9 => h9) rfl dX5_append_15 ?_
          refine lv_sipush (v := 900) hx hb dX5_append_18 (by decide) ?_
          refine lv_icmp_ge (tgt := 47) hx hb dX5_append_21 (by decide) (fun c21 => ?_) (fun c21 => ?_)
          · have hok := k_pos c21 hok
            exact J47 vR_tape_3 vR_3 H locs ls hP hD hS (lv_sub hl [0, 1, 2] rfl) hok
          · have hok := k_neg c21 hok
            refine lv_aload_n hx hb dX5_append_24 rfl (lv_at hl 0 rfl) ?_
            refine va_get (D := D) (ci := 4) (v := .ref (qR 0)) (C := RX5) (T := TX5) (N := 13) hx hb ht0 niX5 hown hK hP 0 rfl rfl 0 (by decide) (ht0 _ wd263) (fun _ h9 => h9) rfl dX5_append_25 ?_
            refine lv_aload_n hx hb dX5_append_28 rfl (lv_at hl 0 rfl) ?_
            refine va_get (D := D) (ci := 4) (v := .int (vR_3 1)) (C := RX5) (T := TX5) (N := 13) hx hb ht0 niX5 hown hK hP 0 rfl rfl 1 (by decide) (ht0 _ wd262) (fun _ h9 => h9) rfl dX5_append_29 ?_
            refine lv_iload_n hx hb dX5_append_32 rfl (lv_at hl 1 rfl) ?_
            refine lv_iload_n hx hb dX5_append_33 rfl (lv_at hl 2 rfl) ?_
            refine lv_ishr hx hb dX5_append_34 ?_
            refine lv_i2b (v := (isr x1 y2_3).toInt8.toInt32) hx hb dX5_append_35 rfl ?_
            obtain ⟨g36, hok⟩ := gd_some hok
            refine va_bast hx hb hK hP hD hS 1 1 rfl rfl (okI_in g36) dX5_append_36 (fun H locs hP hD hS => ?_)
            have hP : va_P D vwCl (wX5_append cy aR qR aH aH vR_j11 vR_3 (upd vR_tape_3 (vR_3 1).toNatClampNeg (vp_nar .byte ((isr x1 y2_3).toInt8.toInt32)))) H := hP
            have hD : va_D A (wX5_append cy aR qR aH aH vR_j11 vR_3 (upd vR_tape_3 (vR_3 1).toNatClampNeg (vp_nar .byte ((isr x1 y2_3).toInt8.toInt32)))) := hD
            refine lv_aload_n hx hb dX5_append_37 rfl (lv_at hl 0 rfl) ?_
            refine lv_dup hx hb dX5_append_38 rfl ?_
            refine va_get (D := D) (ci := 4) (v := .int (vR_3 1)) (C := RX5) (T := TX5) (N := 13) hx hb ht0 niX5 hown hK hP 0 rfl rfl 1 (by decide) (ht0 _ wd262) (fun _ h9 => h9) rfl dX5_append_39 ?_
            refine lv_iconst (v := 1) hx hb dX5_append_42 (by decide) ?_
            refine lv_iadd hx hb dX5_append_43 ?_
            refine va_put (D := D) (ci := 4) (v := .int ((vR_3 1) + (1 : Int32))) (ty := .int) (C := RX5) (T := TX5) (N := 13) hx hb ht0 niX5 tyX5 tyX5_ok nmX5 hown hK hP hD hS 0 rfl rfl 1 (by decide) (ht0 _ wd262) (fun _ h9 => h9) rfl (by decide +kernel) rfl rfl (Nat.le_of_ble_eq_true rfl) dX5_append_44 (fun H locs hP hD hS => ?_)
            have hP : va_P D vwCl (wX5_append cy aR qR aH aH vR_j11 (upd vR_3 1 ((vR_3 1) + (1 : Int32))) (upd vR_tape_3 (vR_3 1).toNatClampNeg (vp_nar .byte ((isr x1 y2_3).toInt8.toInt32)))) H := hP
            have hD : va_D A (wX5_append cy aR qR aH aH vR_j11 (upd vR_3 1 ((vR_3 1) + (1 : Int32))) (upd vR_tape_3 (vR_3 1).toNatClampNeg (vp_nar .byte ((isr x1 y2_3).toInt8.toInt32)))) := hD
            exact J47 (upd vR_tape_3 (vR_3 1).toNatClampNeg (vp_nar .byte ((isr x1 y2_3).toInt8.toInt32))) (upd vR_3 1 ((vR_3 1) + (1 : Int32))) H locs ls hP hD hS (lv_sub hl [0, 1, 2] rfl) hok
  unfold fX5_append at hok
  obtain ⟨H, hH⟩ : ∃ H, H = s.heap := ⟨_, rfl⟩
  obtain ⟨locs, hlc⟩ : ∃ x : List Loc, x = [] := ⟨_, rfl⟩
  have hP : va_P D vwCl (wX5_append cy aR qR aH aH vR_j11 vR vR_tape) H := by rw [hH]; exact hP
  have hS : va_S A s.heap H locs := by rw [hH, hlc]; exact hS
  rw [show W p l e _ s m _ below meth c s.heap [] = W p l e _ s m _ below meth c H locs from by rw [hH, hlc]]
  refine lv_bipush (v := 24) hx hb dX5_append_0 (by decide) ?_
  refine lv_istore_n (lv' := [(2, .int 24), (0, .ref aR), (1, .int x1)]) hx hb dX5_append_2 rfl hl (by decide) rfl (fun ls hl => ?_)
  exact L3 5000 (24 : Int32) vR_tape vR H locs ls hP hD hS (lv_sub hl [1, 2, 0] rfl) hok
def wsX5_faultFound : List Cond := .code yX5_faultFound cX5_faultFound 1 (some .int) :: W0
abbrev wX5_faultFound (cy : Nat → ClassId) (aR : Nat) (qR : Nat → Nat) (aH : Nat) (fvR_2 : Nat) (vR_j11 : Int64) (vR : Nat → Int32) : va_W := [(aR, oX5 vR qR vR_j11 fvR_2)]
set_option maxHeartbeats 4000000 in
set_option maxRecDepth 100000 in
theorem kX5_faultFound (l : Launch) (D : va_G) (cy : Nat → ClassId) (sz : Nat) (aR : Nat) (qR : Nat → Nat) (aH : Nat) (vR_j11 : Int64) (vR : Nat → Int32) (zr : Int32) (hok : fX5_faultFound vR_j11 vR = some zr) (A : Nat → Prop) (hAe : va_A (wX5_faultFound cy aR qR aH aH vR_j11 vR) sz = A) : Met l yX5_faultFound wsX5_faultFound ({ frames := 0, cells := 0, slots := 0, locals := 0 } : Room) (kPre D cy [.ref aR] (wX5_faultFound cy aR qR aH aH vR_j11 vR) sz) (kQi D cy zr A (wX5_faultFound cy aR qR aH aH vR_j11 vR)) 0 0 A := by
  refine Met.ofW (cc := cX5_faultFound) (maxL := 1) (ret := (some .int)) (by decide) rfl ?_
  intro p e s m args below meth c s₁ B hml hv
  obtain ⟨rfl, hsz, hP, hK, hD0, hN⟩ := hv
  have hx := B.exec
  have hb := B.bytes
  have hr := B.returns
  have ht0 : ∀ w ∈ W0, w.before _ s = true := fun w h => atoms_spec (ws := wsX5_faultFound) B.pre w (List.mem_cons_of_mem _ h)
  have hown : s.vm.findClass RX5 = some m.cls := findClass_of_methodNamed B.named
  have hlocks := B.notSynchronized
  subst hsz
  have hD : va_D A (wX5_faultFound cy aR qR aH aH vR_j11 vR) := by rw [← hAe]; exact hD0.self
  have hA : ∀ q : Nat, s.heap.size ≤ q → A q := fun q h => by rw [← hAe]; exact Or.inr h
  have hS : va_S A s.heap s.heap [] := va_S.rf
  have hl := lv_entry ([.ref aR]) (n := 1) (Nat.le_of_ble_eq_true rfl)
  rw [lg_entry_eq]
  generalize (lg_sl ([.ref aR]) ++ List.replicate (1 - (lg_sl ([.ref aR])).length) Slot.unset).toArray = ls at hl ⊢
  have hl : lv_has ls 1 [(0, .ref aR)] := hl
  unfold fX5_faultFound at hok
  obtain ⟨H, hH⟩ : ∃ H, H = s.heap := ⟨_, rfl⟩
  obtain ⟨locs, hlc⟩ : ∃ x : List Loc, x = [] := ⟨_, rfl⟩
  have hP : va_P D vwCl (wX5_faultFound cy aR qR aH aH vR_j11 vR) H := by rw [hH]; exact hP
  have hS : va_S A s.heap H locs := by rw [hH, hlc]; exact hS
  rw [show W p l e _ s m _ below meth c s.heap [] = W p l e _ s m _ below meth c H locs from by rw [hH, hlc]]
  refine lv_aload_n hx hb dX5_faultFound_0 rfl (lv_at hl 0 rfl) ?_
  refine va_get (D := D) (ci := 4) (v := .int (vR 12)) (C := RX5) (T := TX5) (N := 13) hx hb ht0 niX5 hown hK hP 0 rfl rfl 12 (by decide) (ht0 _ wd264) (fun _ h9 => h9) rfl dX5_faultFound_1 ?_
  cases hok
  exact W.iret hx hb hr (fun t ht hW => ⟨⟨_, (), rfl, rfl, by rw [ht]; exact hP, va_K.moved hW.alike hK, hD⟩, hS.F ht⟩) hS.2.2 dX5_faultFound_4
def wsX5_faultStart : List Cond := .code yX5_faultStart cX5_faultStart 1 (some .int) :: W0
abbrev wX5_faultStart (cy : Nat → ClassId) (aR : Nat) (qR : Nat → Nat) (aH : Nat) (fvR_2 : Nat) (vR_j11 : Int64) (vR : Nat → Int32) : va_W := [(aR, oX5 vR qR vR_j11 fvR_2)]
set_option maxHeartbeats 4000000 in
set_option maxRecDepth 100000 in
theorem kX5_faultStart (l : Launch) (D : va_G) (cy : Nat → ClassId) (sz : Nat) (aR : Nat) (qR : Nat → Nat) (aH : Nat) (vR_j11 : Int64) (vR : Nat → Int32) (zr : Int32) (hok : fX5_faultStart vR_j11 vR = some zr) (A : Nat → Prop) (hAe : va_A (wX5_faultStart cy aR qR aH aH vR_j11 vR) sz = A) : Met l yX5_faultStart wsX5_faultStart ({ frames := 0, cells := 0, slots := 0, locals := 0 } : Room) (kPre D cy [.ref aR] (wX5_faultStart cy aR qR aH aH vR_j11 vR) sz) (kQi D cy zr A (wX5_faultStart cy aR qR aH aH vR_j11 vR)) 0 0 A := by
  refine Met.ofW (cc := cX5_faultStart) (maxL := 1) (ret := (some .int)) (by decide) rfl ?_
  intro p e s m args below meth c s₁ B hml hv
  obtain ⟨rfl, hsz, hP, hK, hD0, hN⟩ := hv
  have hx := B.exec
  have hb := B.bytes
  have hr := B.returns
  have ht0 : ∀ w ∈ W0, w.before _ s = true := fun w h => atoms_spec (ws := wsX5_faultStart) B.pre w (List.mem_cons_of_mem _ h)
  have hown : s.vm.findClass RX5 = some m.cls := findClass_of_methodNamed B.named
  have hlocks := B.notSynchronized
  subst hsz
  have hD : va_D A (wX5_faultStart cy aR qR aH aH vR_j11 vR) := by rw [← hAe]; exact hD0.self
  have hA : ∀ q : Nat, s.heap.size ≤ q → A q := fun q h => by rw [← hAe]; exact Or.inr h
  have hS : va_S A s.heap s.heap [] := va_S.rf
  have hl := lv_entry ([.ref aR]) (n := 1) (Nat.le_of_ble_eq_true rfl)
  rw [lg_entry_eq]
  generalize (lg_sl ([.ref aR]) ++ List.replicate (1 - (lg_sl ([.ref aR])).length) Slot.unset).toArray = ls at hl ⊢
  have hl : lv_has ls 1 [(0, .ref aR)] := hl
  unfold fX5_faultStart at hok
  obtain ⟨H, hH⟩ : ∃ H, H = s.heap := ⟨_, rfl⟩
  obtain ⟨locs, hlc⟩ : ∃ x : List Loc, x = [] := ⟨_, rfl⟩
  have hP : va_P D vwCl (wX5_faultStart cy aR qR aH aH vR_j11 vR) H := by rw [hH]; exact hP
  have hS : va_S A s.heap H locs := by rw [hH, hlc]; exact hS
  rw [show W p l e _ s m _ below meth c s.heap [] = W p l e _ s m _ below meth c H locs from by rw [hH, hlc]]
  refine lv_aload_n hx hb dX5_faultStart_0 rfl (lv_at hl 0 rfl) ?_
  refine va_get (D := D) (ci := 4) (v := .int (vR 8)) (C := RX5) (T := TX5) (N := 13) hx hb ht0 niX5 hown hK hP 0 rfl rfl 8 (by decide) (ht0 _ wd265) (fun _ h9 => h9) rfl dX5_faultStart_1 ?_
  cases hok
  exact W.iret hx hb hr (fun t ht hW => ⟨⟨_, (), rfl, rfl, by rw [ht]; exact hP, va_K.moved hW.alike hK, hD⟩, hS.F ht⟩) hS.2.2 dX5_faultStart_4
def wsX5_exchange : List Cond := .code yX5_exchange cX5_exchange 3 (some (.object "NightRound$House")) :: W0
abbrev wX5_exchange (cy : Nat → ClassId) (aR : Nat) (aH : Nat) (qR : Nat → Nat) (aH0 : Nat) (fvR_2 : Nat) (vR_j11 : Int64) (vR : Nat → Int32) : va_W := [(aR, oX5 vR qR vR_j11 fvR_2)]
set_option maxHeartbeats 4000000 in
set_option maxRecDepth 100000 in
theorem kX5_exchange (l : Launch) (D : va_G) (cy : Nat → ClassId) (sz : Nat) (aR : Nat) (aH : Nat) (qR : Nat → Nat) (aH0 : Nat) (vR_j11 : Int64) (vR : Nat → Int32) (hok : fX5_exchange vR_j11 vR = some ()) (A : Nat → Prop) (hAe : va_A (wX5_exchange cy aR aH qR aH0 aH0 vR_j11 vR) sz = A) : Met l yX5_exchange wsX5_exchange ({ frames := 0, cells := 0, slots := 0, locals := 0 } : Room) (kPre D cy [.ref aR, .ref aH] (wX5_exchange cy aR aH qR aH0 aH0 vR_j11 vR) sz) (kQr D cy aH0 A (wX5_exchange cy aR aH qR aH0 aH vR_j11 vR)) 0 0 A := by
  refine Met.ofW (cc := cX5_exchange) (maxL := 3) (ret := (some (.object "NightRound$House"))) (by decide) rfl ?_
  intro p e s m args below meth c s₁ B hml hv
  obtain ⟨rfl, hsz, hP, hK, hD0, hN⟩ := hv
  have hx := B.exec
  have hb := B.bytes
  have hr := B.returns
  have ht0 : ∀ w ∈ W0, w.before _ s = true := fun w h => atoms_spec (ws := wsX5_exchange) B.pre w (List.mem_cons_of_mem _ h)
  have hown : s.vm.findClass RX5 = some m.cls := findClass_of_methodNamed B.named
  have hlocks := B.notSynchronized
  subst hsz
  have hD : va_D A (wX5_exchange cy aR aH qR aH0 aH0 vR_j11 vR) := by rw [← hAe]; exact hD0.self
  have hA : ∀ q : Nat, s.heap.size ≤ q → A q := fun q h => by rw [← hAe]; exact Or.inr h
  have hS : va_S A s.heap s.heap [] := va_S.rf
  have hl := lv_entry ([.ref aR, .ref aH]) (n := 3) (Nat.le_of_ble_eq_true rfl)
  rw [lg_entry_eq]
  generalize (lg_sl ([.ref aR, .ref aH]) ++ List.replicate (3 - (lg_sl ([.ref aR, .ref aH])).length) Slot.unset).toArray = ls at hl ⊢
  have hl : lv_has ls 3 [(0, .ref aR), (1, .ref aH)] := hl
  unfold fX5_exchange at hok
  obtain ⟨H, hH⟩ : ∃ H, H = s.heap := ⟨_, rfl⟩
  obtain ⟨locs, hlc⟩ : ∃ x : List Loc, x = [] := ⟨_, rfl⟩
  have hP : va_P D vwCl (wX5_exchange cy aR aH qR aH0 aH0 vR_j11 vR) H := by rw [hH]; exact hP
  have hS : va_S A s.heap H locs := by rw [hH, hlc]; exact hS
  rw [show W p l e _ s m _ below meth c s.heap [] = W p l e _ s m _ below meth c H locs from by rw [hH, hlc]]
  refine lv_aload_n hx hb dX5_exchange_0 rfl (lv_at hl 0 rfl) ?_
  refine va_get (D := D) (ci := 4) (v := .ref aH0) (C := RX5) (T := TX5) (N := 13) hx hb ht0 niX5 hown hK hP 0 rfl rfl 2 (by decide) (ht0 _ wd266) (fun _ h9 => h9) rfl dX5_exchange_1 ?_
  refine lv_astore_n (lv' := [(2, .ref aH0), (0, .ref aR), (1, .ref aH)]) hx hb dX5_exchange_4 rfl hl (by decide) rfl (fun ls hl => ?_)
  refine lv_aload_n hx hb dX5_exchange_5 rfl (lv_at hl 1 rfl) ?_
  refine lv_aload_n hx hb dX5_exchange_6 rfl (lv_at hl 2 rfl) ?_
  refine va_put (D := D) (ci := 4) (v := .ref aH) (ty := (.object "NightRound$House")) (C := RX5) (T := TX5) (N := 13) hx hb ht0 niX5 tyX5 tyX5_ok nmX5 hown hK hP hD hS 0 rfl rfl 2 (by decide) (ht0 _ wd266) (fun _ h9 => h9) rfl (by decide +kernel) rfl rfl (Nat.le_of_ble_eq_true rfl) dX5_exchange_7 (fun H locs hP hD hS => ?_)
  have hP : va_P D vwCl (wX5_exchange cy aR aH qR aH0 aH vR_j11 vR) H := hP
  have hD : va_D A (wX5_exchange cy aR aH qR aH0 aH vR_j11 vR) := hD
  refine lv_aload_n hx hb dX5_exchange_10 rfl (lv_at hl 0 rfl) ?_
  exact W.aret hx hb hr (Or.inl ⟨_, rfl⟩) (Or.inr ⟨_, rfl⟩) (fun t ht hW => ⟨⟨(), _, rfl, trivial, rfl, by rw [ht]; exact hP, va_K.moved hW.alike hK, hD⟩, hS.F ht⟩) hS.2.2 dX5_exchange_11
def wsX5_byteAt : List Cond := .code yX5_byteAt cX5_byteAt 2 (some .int) :: W0
abbrev wX5_byteAt (cy : Nat → ClassId) (aR : Nat) (qR : Nat → Nat) (aH : Nat) (fvR_2 : Nat) (vR_j11 : Int64) (vR : Nat → Int32) (vR_tape : Nat → Int32) : va_W := [(aR, oX5 vR qR vR_j11 fvR_2), (qR 0, rB cy 900 vR_tape)]
set_option maxHeartbeats 4000000 in
set_option maxRecDepth 100000 in
theorem kX5_byteAt (l : Launch) (D : va_G) (cy : Nat → ClassId) (sz : Nat) (aR : Nat) (qR : Nat → Nat) (aH : Nat) (vR_j11 : Int64) (vR : Nat → Int32) (vR_tape : Nat → Int32) (x1 : Int32) (zr : Int32) (hok : fX5_byteAt vR_j11 vR vR_tape x1 = some zr) (A : Nat → Prop) (hAe : va_A (wX5_byteAt cy aR qR aH aH vR_j11 vR vR_tape) sz = A) : Met l yX5_byteAt wsX5_byteAt ({ frames := 0, cells := 0, slots := 0, locals := 0 } : Room) (kPre D cy [.ref aR, .int x1] (wX5_byteAt cy aR qR aH aH vR_j11 vR vR_tape) sz) (kQi D cy zr A (wX5_byteAt cy aR qR aH aH vR_j11 vR vR_tape)) 0 0 A := by
  refine Met.ofW (cc := cX5_byteAt) (maxL := 2) (ret := (some .int)) (by decide) rfl ?_
  intro p e s m args below meth c s₁ B hml hv
  obtain ⟨rfl, hsz, hP, hK, hD0, hN⟩ := hv
  have hx := B.exec
  have hb := B.bytes
  have hr := B.returns
  have ht0 : ∀ w ∈ W0, w.before _ s = true := fun w h => atoms_spec (ws := wsX5_byteAt) B.pre w (List.mem_cons_of_mem _ h)
  have hown : s.vm.findClass RX5 = some m.cls := findClass_of_methodNamed B.named
  have hlocks := B.notSynchronized
  subst hsz
  have hD : va_D A (wX5_byteAt cy aR qR aH aH vR_j11 vR vR_tape) := by rw [← hAe]; exact hD0.self
  have hA : ∀ q : Nat, s.heap.size ≤ q → A q := fun q h => by rw [← hAe]; exact Or.inr h
  have hS : va_S A s.heap s.heap [] := va_S.rf
  have hl := lv_entry ([.ref aR, .int x1]) (n := 2) (Nat.le_of_ble_eq_true rfl)
  rw [lg_entry_eq]
  generalize (lg_sl ([.ref aR, .int x1]) ++ List.replicate (2 - (lg_sl ([.ref aR, .int x1])).length) Slot.unset).toArray = ls at hl ⊢
  have hl : lv_has ls 2 [(0, .ref aR), (1, .int x1)] := hl
  generalize hQe : MQ below (kQi D cy zr A (wX5_byteAt cy aR qR aH aH vR_j11 vR vR_tape)) ([.ref aR, .int x1] : List Value).toArray s 0 0 A = Q
  have J33 : ∀ (t0_33 : Int32), ∀ (H : Heap) (locs : List Loc) (ls : Array Slot), va_P D vwCl (wX5_byteAt cy aR qR aH aH vR_j11 vR vR_tape) H → va_D A (wX5_byteAt cy aR qR aH aH vR_j11 vR vR_tape) → va_S A s.heap H locs → lv_has ls 2 [] → fX5_byteAt_J33 t0_33 = some zr → W p l e ({ frames := 0, cells := 0, slots := 0, locals := 0 } : Room) s m ([.ref aR, .int x1] : List Value).toArray below meth c H locs 0 0 Q (F0 m 33 ls [.int t0_33]) := by
    intro t0_33 H locs ls hP hD hS hl hok
    unfold fX5_byteAt_J33 at hok
    cases hok
    subst hQe; exact W.iret hx hb hr (fun t ht hW => ⟨⟨_, (), rfl, rfl, by rw [ht]; exact hP, va_K.moved hW.alike hK, hD⟩, hS.F ht⟩) hS.2.2 dX5_byteAt_33
  have J32 : ∀ (H : Heap) (locs : List Loc) (ls : Array Slot), va_P D vwCl (wX5_byteAt cy aR qR aH aH vR_j11 vR vR_tape) H → va_D A (wX5_byteAt cy aR qR aH aH vR_j11 vR vR_tape) → va_S A s.heap H locs → lv_has ls 2 [] → fX5_byteAt_J32 = some zr → W p l e ({ frames := 0, cells := 0, slots := 0, locals := 0 } : Room) s m ([.ref aR, .int x1] : List Value).toArray below meth c H locs 0 0 Q (F0 m 32 ls []) := by
    intro  H locs ls hP hD hS hl hok
    unfold fX5_byteAt_J32 at hok
    refine lv_iconst (v := -1) hx hb dX5_byteAt_32 (by decide) ?_
    exact J33 (-1 : Int32) H locs ls hP hD hS (lv_sub hl [] rfl) hok
  unfold fX5_byteAt at hok
  obtain ⟨H, hH⟩ : ∃ H, H = s.heap := ⟨_, rfl⟩
  obtain ⟨locs, hlc⟩ : ∃ x : List Loc, x = [] := ⟨_, rfl⟩
  have hP : va_P D vwCl (wX5_byteAt cy aR qR aH aH vR_j11 vR vR_tape) H := by rw [hH]; exact hP
  have hS : va_S A s.heap H locs := by rw [hH, hlc]; exact hS
  rw [show W p l e _ s m _ below meth c s.heap [] = W p l e _ s m _ below meth c H locs from by rw [hH, hlc]]
  refine lv_iload_n hx hb dX5_byteAt_0 rfl (lv_at hl 1 rfl) ?_
  refine lv_if_lt (tgt := 32) hx hb dX5_byteAt_1 (by decide) (fun c1 => ?_) (fun c1 => ?_)
  · have hok := k_pos c1 hok
    exact J32  H locs ls hP hD hS (lv_sub hl [] rfl) hok
  · have hok := k_neg c1 hok
    refine lv_iload_n hx hb dX5_byteAt_4 rfl (lv_at hl 1 rfl) ?_
    refine lv_aload_n hx hb dX5_byteAt_5 rfl (lv_at hl 0 rfl) ?_
    refine va_get (D := D) (ci := 4) (v := .int (vR 6)) (C := RX5) (T := TX5) (N := 13) hx hb ht0 niX5 hown hK hP 0 rfl rfl 6 (by decide) (ht0 _ wd267) (fun _ h9 => h9) rfl dX5_byteAt_6 ?_
    refine lv_icmp_ge (tgt := 32) hx hb dX5_byteAt_9 (by decide) (fun c9 => ?_) (fun c9 => ?_)
    · have hok := k_pos c9 hok
      exact J32  H locs ls hP hD hS (lv_sub hl [] rfl) hok
    · have hok := k_neg c9 hok
      refine lv_iload_n hx hb dX5_byteAt_12 rfl (lv_at hl 1 rfl) ?_
      refine lv_sipush (v := 900) hx hb dX5_byteAt_13 (by decide) ?_
      refine lv_icmp_ge (tgt := 32) hx hb dX5_byteAt_16 (by decide) (fun c16 => ?_) (fun c16 => ?_)
      · have hok := k_pos c16 hok
        exact J32  H locs ls hP hD hS (lv_sub hl [] rfl) hok
      · have hok := k_neg c16 hok
        refine lv_aload_n hx hb dX5_byteAt_19 rfl (lv_at hl 0 rfl) ?_
        refine va_get (D := D) (ci := 4) (v := .ref (qR 0)) (C := RX5) (T := TX5) (N := 13) hx hb ht0 niX5 hown hK hP 0 rfl rfl 0 (by decide) (ht0 _ wd263) (fun _ h9 => h9) rfl dX5_byteAt_20 ?_
        refine lv_iload_n hx hb dX5_byteAt_23 rfl (lv_at hl 1 rfl) ?_
        obtain ⟨g24, hok⟩ := gd_some hok
        refine va_bald hx hb hK hP 1 1 rfl rfl (okI_in g24) dX5_byteAt_24 ?_
        refine lv_sipush (v := 255) hx hb dX5_byteAt_25 (by decide) ?_
        refine lv_iand hx hb dX5_byteAt_28 ?_
        refine lv_goto (tgt := 33) hx hb dX5_byteAt_29 (by decide) ?_
        exact J33 ((vR_tape x1.toNatClampNeg) &&& (255 : Int32)) H locs ls hP hD hS (lv_sub hl [] rfl) hok
def wsX5_takeLetters : List Cond := .code yX5_takeLetters cX5_takeLetters 2 none :: W0
abbrev wX5_takeLetters (cy : Nat → ClassId) (aR : Nat) (qR : Nat → Nat) (aH : Nat) (fvR_2 : Nat) (vR_j11 : Int64) (vR : Nat → Int32) (vR_tape : Nat → Int32) : va_W := [(aR, oX5 vR qR vR_j11 fvR_2), (qR 0, rB cy 900 vR_tape)]
set_option maxHeartbeats 4000000 in
set_option maxRecDepth 100000 in
theorem kX5_takeLetters (l : Launch) (D : va_G) (cy : Nat → ClassId) (sz : Nat) (aR : Nat) (qR : Nat → Nat) (aH : Nat) (vR_j11 : Int64) (vR : Nat → Int32) (vR_tape : Nat → Int32) (z_vR_j11 : Int64) (z_vR : Nat → Int32) (hok : fX5_takeLetters vR_j11 vR vR_tape = some (z_vR_j11, z_vR)) (A : Nat → Prop) (hAe : va_A (wX5_takeLetters cy aR qR aH aH vR_j11 vR vR_tape) sz = A) : Met l yX5_takeLetters wsX5_takeLetters ({ frames := 0, cells := 0, slots := 0, locals := 0 } : Room) (kPre D cy [.ref aR] (wX5_takeLetters cy aR qR aH aH vR_j11 vR vR_tape) sz) (kQv D cy A (wX5_takeLetters cy aR qR aH aH z_vR_j11 z_vR vR_tape)) 0 0 A := by
  refine Met.ofW (cc := cX5_takeLetters) (maxL := 2) (ret := none) (by decide) rfl ?_
  intro p e s m args below meth c s₁ B hml hv
  obtain ⟨rfl, hsz, hP, hK, hD0, hN⟩ := hv
  have hx := B.exec
  have hb := B.bytes
  have hr := B.returns
  have ht0 : ∀ w ∈ W0, w.before _ s = true := fun w h => atoms_spec (ws := wsX5_takeLetters) B.pre w (List.mem_cons_of_mem _ h)
  have hown : s.vm.findClass RX5 = some m.cls := findClass_of_methodNamed B.named
  have hlocks := B.notSynchronized
  subst hsz
  have hD : va_D A (wX5_takeLetters cy aR qR aH aH vR_j11 vR vR_tape) := by rw [← hAe]; exact hD0.self
  have hA : ∀ q : Nat, s.heap.size ≤ q → A q := fun q h => by rw [← hAe]; exact Or.inr h
  have hS : va_S A s.heap s.heap [] := va_S.rf
  have hl := lv_entry ([.ref aR]) (n := 2) (Nat.le_of_ble_eq_true rfl)
  rw [lg_entry_eq]
  generalize (lg_sl ([.ref aR]) ++ List.replicate (2 - (lg_sl ([.ref aR])).length) Slot.unset).toArray = ls at hl ⊢
  have hl : lv_has ls 2 [(0, .ref aR)] := hl
  generalize hQe : MQ below (kQv D cy A (wX5_takeLetters cy aR qR aH aH z_vR_j11 z_vR vR_tape)) ([.ref aR] : List Value).toArray s 0 0 A = Q
  have J112 : ∀ (t0_112 : Int32) (vR_11_112 : Int64) (vR_112 : Nat → Int32), ∀ (H : Heap) (locs : List Loc) (ls : Array Slot), va_P D vwCl (wX5_takeLetters cy aR qR aH aH vR_11_112 vR_112 vR_tape) H → va_D A (wX5_takeLetters cy aR qR aH aH vR_11_112 vR_112 vR_tape) → va_S A s.heap H locs → lv_has ls 2 [] → fX5_takeLetters_J112 t0_112 vR_11_112 vR_112 = some (z_vR_j11, z_vR) → W p l e ({ frames := 0, cells := 0, slots := 0, locals := 0 } : Room) s m ([.ref aR] : List Value).toArray below meth c H locs 0 0 Q (F0 m 112 ls [.int t0_112, .ref aR]) := by
    intro t0_112 vR_11_112 vR_112 H locs ls hP hD hS hl hok
    unfold fX5_takeLetters_J112 at hok
    refine va_put (D := D) (ci := 4) (v := .int t0_112) (ty := .int) (C := RX5) (T := TX5) (N := 13) hx hb ht0 niX5 tyX5 tyX5_ok nmX5 hown hK hP hD hS 0 rfl rfl 7 (by decide) (ht0 _ wd269) (fun _ h9 => h9) rfl (by decide +kernel) rfl rfl (Nat.le_of_ble_eq_true rfl) dX5_takeLetters_112 (fun H locs hP hD hS => ?_)
    have hP : va_P D vwCl (wX5_takeLetters cy aR qR aH aH vR_11_112 (upd vR_112 7 t0_112) vR_tape) H := hP
    have hD : va_D A (wX5_takeLetters cy aR qR aH aH vR_11_112 (upd vR_112 7 t0_112) vR_tape) := hD
    cases hok
    subst hQe; exact W.vret hx hb hr (fun t ht hW => ⟨⟨(), rfl, trivial, by rw [ht]; exact hP, va_K.moved hW.alike hK, hD⟩, hS.F ht⟩) hS.2.2 dX5_takeLetters_115
  have J92 : ∀ (vR_11_92 : Int64) (vR_92 : Nat → Int32), ∀ (H : Heap) (locs : List Loc) (ls : Array Slot), va_P D vwCl (wX5_takeLetters cy aR qR aH aH vR_11_92 vR_92 vR_tape) H → va_D A (wX5_takeLetters cy aR qR aH aH vR_11_92 vR_92 vR_tape) → va_S A s.heap H locs → lv_has ls 2 [(0, .ref aR)] → fX5_takeLetters_J92 vR_11_92 vR_92 = some (z_vR_j11, z_vR) → W p l e ({ frames := 0, cells := 0, slots := 0, locals := 0 } : Room) s m ([.ref aR] : List Value).toArray below meth c H locs 0 0 Q (F0 m 92 ls []) := by
    intro vR_11_92 vR_92 H locs ls hP hD hS hl hok
    unfold fX5_takeLetters_J92 at hok
    refine lv_aload_n hx hb dX5_takeLetters_92 rfl (lv_at hl 0 rfl) ?_
    refine lv_aload_n hx hb dX5_takeLetters_93 rfl (lv_at hl 0 rfl) ?_
    refine va_get (D := D) (ci := 4) (v := .int (vR_92 9)) (C := RX5) (T := TX5) (N := 13) hx hb ht0 niX5 hown hK hP 0 rfl rfl 9 (by decide) (ht0 _ wd270) (fun _ h9 => h9) rfl dX5_takeLetters_94 ?_
    refine lv_aload_n hx hb dX5_takeLetters_97 rfl (lv_at hl 0 rfl) ?_
    refine va_get (D := D) (ci := 4) (v := .int (vR_92 8)) (C := RX5) (T := TX5) (N := 13) hx hb ht0 niX5 hown hK hP 0 rfl rfl 8 (by decide) (ht0 _ wd265) (fun _ h9 => h9) rfl dX5_takeLetters_98 ?_
    refine lv_isub hx hb dX5_takeLetters_101 ?_
    refine lv_bipush (v := 8) hx hb dX5_takeLetters_102 (by decide) ?_
    refine lv_icmp_gt (tgt := 111) hx hb dX5_takeLetters_104 (by decide) (fun c104 => ?_) (fun c104 => ?_)
    · have hok := k_pos c104 hok
      refine lv_iconst (v := 4) hx hb dX5_takeLetters_111 (by decide) ?_
      exact J112 (4 : Int32) vR_11_92 vR_92 H locs ls hP hD hS (lv_sub hl [] rfl) hok
    · have hok := k_neg c104 hok
      refine lv_iconst (v := 1) hx hb dX5_takeLetters_107 (by decide) ?_
      refine lv_goto (tgt := 112) hx hb dX5_takeLetters_108 (by decide) ?_
      exact J112 (1 : Int32) vR_11_92 vR_92 H locs ls hP hD hS (lv_sub hl [] rfl) hok
  have L10 : ∀ (fuel : Nat) (y1_10 : Int32) (vR_11_10 : Int64) (vR_10 : Nat → Int32), ∀ (H : Heap) (locs : List Loc) (ls : Array Slot), va_P D vwCl (wX5_takeLetters cy aR qR aH aH vR_11_10 vR_10 vR_tape) H → va_D A (wX5_takeLetters cy aR qR aH aH vR_11_10 vR_10 vR_tape) → va_S A s.heap H locs → lv_has ls 2 [(0, .ref aR), (1, .int y1_10)] → lp (fX5_takeLetters_B10 vR_tape) fuel (y1_10, vR_11_10, vR_10) = some (z_vR_j11, z_vR) → W p l e ({ frames := 0, cells := 0, slots := 0, locals := 0 } : Room) s m ([.ref aR] : List Value).toArray below meth c H locs 0 0 Q (F0 m 10 ls []) := by
    intro fuel
    induction fuel with
    | zero => intro y1_10 vR_11_10 vR_10 H locs ls hP hD hS hl hok; exact (lp_0 hok).elim
    | succ fuel ih10 =>
      intro y1_10 vR_11_10 vR_10 H locs ls hP hD hS hl hok
      obtain ⟨y10, hok, hL10, hR10⟩ := lp_step hok
      unfold fX5_takeLetters_B10 at hok
      try dsimp only at hok
      refine lv_iload_n hx hb dX5_takeLetters_10 rfl (lv_at hl 1 rfl) ?_
      refine lv_if_lt (tgt := 92) hx hb dX5_takeLetters_11 (by decide) (fun c11 => ?_) (fun c11 => ?_)
      · have hok := k_pos c11 hok
        obtain ⟨e10, hok, he10⟩ := ex_some hok
        have hok := hok.trans (congrArg some (hL10 _ he10))
        exact J92 vR_11_10 vR_10 H locs ls hP hD hS (lv_sub hl [0] rfl) hok
      · have hok := k_neg c11 hok
        refine lv_iload_n hx hb dX5_takeLetters_14 rfl (lv_at hl 1 rfl) ?_
        refine lv_aload_n hx hb dX5_takeLetters_15 rfl (lv_at hl 0 rfl) ?_
        refine va_get (D := D) (ci := 4) (v := .int (vR_10 6)) (C := RX5) (T := TX5) (N := 13) hx hb ht0 niX5 hown hK hP 0 rfl rfl 6 (by decide) (ht0 _ wd267) (fun _ h9 => h9) rfl dX5_takeLetters_16 ?_
        refine lv_icmp_ge (tgt := 92) hx hb dX5_takeLetters_19 (by decide) (fun c19 => ?_) (fun c19 => ?_)
        · have hok := k_pos c19 hok
          obtain ⟨e10, hok, he10⟩ := ex_some hok
          have hok := hok.trans (congrArg some (hL10 _ he10))
          exact J92 vR_11_10 vR_10 H locs ls hP hD hS (lv_sub hl [0] rfl) hok
        · have hok := k_neg c19 hok
          refine lv_iload_n hx hb dX5_takeLetters_22 rfl (lv_at hl 1 rfl) ?_
          refine lv_sipush (v := 900) hx hb dX5_takeLetters_23 (by decide) ?_
          refine lv_icmp_ge (tgt := 92) hx hb dX5_takeLetters_26 (by decide) (fun c26 => ?_) (fun c26 => ?_)
          · have hok := k_pos c26 hok
            obtain ⟨e10, hok, he10⟩ := ex_some hok
            have hok := hok.trans (congrArg some (hL10 _ he10))
            exact J92 vR_11_10 vR_10 H locs ls hP hD hS (lv_sub hl [0] rfl) hok
          · have hok := k_neg c26 hok
            refine lv_aload_n hx hb dX5_takeLetters_29 rfl (lv_at hl 0 rfl) ?_
            refine va_get (D := D) (ci := 4) (v := .ref (qR 0)) (C := RX5) (T := TX5) (N := 13) hx hb ht0 niX5 hown hK hP 0 rfl rfl 0 (by decide) (ht0 _ wd263) (fun _ h9 => h9) rfl dX5_takeLetters_30 ?_
            refine lv_iload_n hx hb dX5_takeLetters_33 rfl (lv_at hl 1 rfl) ?_
            obtain ⟨g34, hok⟩ := gd_some hok
            refine va_bald hx hb hK hP 1 1 rfl rfl (okI_in g34) dX5_takeLetters_34 ?_
            refine lv_bipush (v := 97) hx hb dX5_takeLetters_35 (by decide) ?_
            refine lv_icmp_lt (tgt := 92) hx hb dX5_takeLetters_37 (by decide) (fun c37 => ?_) (fun c37 => ?_)
            · have hok := k_pos c37 hok
              obtain ⟨e10, hok, he10⟩ := ex_some hok
              have hok := hok.trans (congrArg some (hL10 _ he10))
              exact J92 vR_11_10 vR_10 H locs ls hP hD hS (lv_sub hl [0] rfl) hok
            · have hok := k_neg c37 hok
              refine lv_aload_n hx hb dX5_takeLetters_40 rfl (lv_at hl 0 rfl) ?_
              refine va_get (D := D) (ci := 4) (v := .ref (qR 0)) (C := RX5) (T := TX5) (N := 13) hx hb ht0 niX5 hown hK hP 0 rfl rfl 0 (by decide) (ht0 _ wd263) (fun _ h9 => h9) rfl dX5_takeLetters_41 ?_
              refine lv_iload_n hx hb dX5_takeLetters_44 rfl (lv_at hl 1 rfl) ?_
              obtain ⟨g45, hok⟩ := gd_some hok
              refine va_bald hx hb hK hP 1 1 rfl rfl (okI_in g45) dX5_takeLetters_45 ?_
              refine lv_bipush (v := 122) hx hb dX5_takeLetters_46 (by decide) ?_
              refine lv_icmp_le (tgt := 54) hx hb dX5_takeLetters_48 (by decide) (fun c48 => ?_) (fun c48 => ?_)
              · have hok := k_pos c48 hok
                refine lv_aload_n hx hb dX5_takeLetters_54 rfl (lv_at hl 0 rfl) ?_
                refine lv_aload_n hx hb dX5_takeLetters_55 rfl (lv_at hl 0 rfl) ?_
                refine va_get (D := D) (ci := 4) (v := .long vR_11_10) (C := RX5) (T := TX5) (N := 13) hx hb ht0 niX5 hown hK hP 0 rfl rfl 11 (by decide) (ht0 _ wd271) (fun _ h9 => h9) rfl dX5_takeLetters_56 ?_
                refine lv_ldc2 (v := 32) hx hb hown (ht0 _ wd268) dX5_takeLetters_59 ?_
                refine lv_lmul hx hb dX5_takeLetters_62 ?_
                refine lv_aload_n hx hb dX5_takeLetters_63 rfl (lv_at hl 0 rfl) ?_
                refine va_get (D := D) (ci := 4) (v := .ref (qR 0)) (C := RX5) (T := TX5) (N := 13) hx hb ht0 niX5 hown hK hP 0 rfl rfl 0 (by decide) (ht0 _ wd263) (fun _ h9 => h9) rfl dX5_takeLetters_64 ?_
                refine lv_iload_n hx hb dX5_takeLetters_67 rfl (lv_at hl 1 rfl) ?_
                obtain ⟨g68, hok⟩ := gd_some hok
                refine va_bald hx hb hK hP 1 1 rfl rfl (okI_in g68) dX5_takeLetters_68 ?_
                refine lv_bipush (v := 97) hx hb dX5_takeLetters_69 (by decide) ?_
                refine lv_isub hx hb dX5_takeLetters_71 ?_
                refine lv_iconst (v := 1) hx hb dX5_takeLetters_72 (by decide) ?_
                refine lv_iadd hx hb dX5_takeLetters_73 ?_
                refine lv_i2l (v := (((vR_tape y1_10.toNatClampNeg) - (97 : Int32)) + (1 : Int32)).toInt64) hx hb dX5_takeLetters_74 rfl ?_
                refine lv_ladd hx hb dX5_takeLetters_75 ?_
                refine va_put (D := D) (ci := 4) (v := .long ((vR_11_10 * (32 : Int64)) + (((vR_tape y1_10.toNatClampNeg) - (97 : Int32)) + (1 : Int32)).toInt64)) (ty := .long) (C := RX5) (T := TX5) (N := 13) hx hb ht0 niX5 tyX5 tyX5_ok nmX5 hown hK hP hD hS 0 rfl rfl 11 (by decide) (ht0 _ wd271) (fun _ h9 => h9) rfl (by decide +kernel) rfl rfl (Nat.le_of_ble_eq_true rfl) dX5_takeLetters_76 (fun H locs hP hD hS => ?_)
                have hP : va_P D vwCl (wX5_takeLetters cy aR qR aH aH ((vR_11_10 * (32 : Int64)) + (((vR_tape y1_10.toNatClampNeg) - (97 : Int32)) + (1 : Int32)).toInt64) vR_10 vR_tape) H := hP
                have hD : va_D A (wX5_takeLetters cy aR qR aH aH ((vR_11_10 * (32 : Int64)) + (((vR_tape y1_10.toNatClampNeg) - (97 : Int32)) + (1 : Int32)).toInt64) vR_10 vR_tape) := hD
                refine lv_aload_n hx hb dX5_takeLetters_79 rfl (lv_at hl 0 rfl) ?_
                refine lv_iload_n hx hb dX5_takeLetters_80 rfl (lv_at hl 1 rfl) ?_
                refine lv_iconst (v := 1) hx hb dX5_takeLetters_81 (by decide) ?_
                refine lv_iadd hx hb dX5_takeLetters_82 ?_
                refine va_put (D := D) (ci := 4) (v := .int (y1_10 + (1 : Int32))) (ty := .int) (C := RX5) (T := TX5) (N := 13) hx hb ht0 niX5 tyX5 tyX5_ok nmX5 hown hK hP hD hS 0 rfl rfl 9 (by decide) (ht0 _ wd270) (fun _ h9 => h9) rfl (by decide +kernel) rfl rfl (Nat.le_of_ble_eq_true rfl) dX5_takeLetters_83 (fun H locs hP hD hS => ?_)
                have hP : va_P D vwCl (wX5_takeLetters cy aR qR aH aH ((vR_11_10 * (32 : Int64)) + (((vR_tape y1_10.toNatClampNeg) - (97 : Int32)) + (1 : Int32)).toInt64) (upd vR_10 9 (y1_10 + (1 : Int32))) vR_tape) H := hP
                have hD : va_D A (wX5_takeLetters cy aR qR aH aH ((vR_11_10 * (32 : Int64)) + (((vR_tape y1_10.toNatClampNeg) - (97 : Int32)) + (1 : Int32)).toInt64) (upd vR_10 9 (y1_10 + (1 : Int32))) vR_tape) := hD
                refine lv_iinc (v := (y1_10 + 1)) (lv' := [(1, .int (y1_10 + 1)), (0, .ref aR)]) hx hb dX5_takeLetters_86 hl (k := 1) rfl (by first | rfl | decide) (by decide) rfl (fun ls hl => ?_)
                refine lv_goto (tgt := 10) hx hb dX5_takeLetters_89 (by decide) ?_
                exact ih10 (y1_10 + 1) ((vR_11_10 * (32 : Int64)) + (((vR_tape y1_10.toNatClampNeg) - (97 : Int32)) + (1 : Int32)).toInt64) (upd vR_10 9 (y1_10 + (1 : Int32))) H locs ls hP hD hS (lv_sub hl [1, 0] rfl) (hR10 _ (Option.some.inj hok).symm)
              · have hok := k_neg c48 hok
                obtain ⟨e10, hok, he10⟩ := ex_some hok
                have hok := hok.trans (congrArg some (hL10 _ he10))
                refine lv_goto (tgt := 92) hx hb dX5_takeLetters_51 (by decide) ?_
                exact J92 vR_11_10 vR_10 H locs ls hP hD hS (lv_sub hl [0] rfl) hok
  unfold fX5_takeLetters at hok
  obtain ⟨H, hH⟩ : ∃ H, H = s.heap := ⟨_, rfl⟩
  obtain ⟨locs, hlc⟩ : ∃ x : List Loc, x = [] := ⟨_, rfl⟩
  have hP : va_P D vwCl (wX5_takeLetters cy aR qR aH aH vR_j11 vR vR_tape) H := by rw [hH]; exact hP
  have hS : va_S A s.heap H locs := by rw [hH, hlc]; exact hS
  rw [show W p l e _ s m _ below meth c s.heap [] = W p l e _ s m _ below meth c H locs from by rw [hH, hlc]]
  refine lv_aload_n hx hb dX5_takeLetters_0 rfl (lv_at hl 0 rfl) ?_
  refine lv_lconst (v := 0) hx hb dX5_takeLetters_1 (by decide) ?_
  refine va_put (D := D) (ci := 4) (v := .long (0 : Int64)) (ty := .long) (C := RX5) (T := TX5) (N := 13) hx hb ht0 niX5 tyX5 tyX5_ok nmX5 hown hK hP hD hS 0 rfl rfl 11 (by decide) (ht0 _ wd271) (fun _ h9 => h9) rfl (by decide +kernel) rfl rfl (Nat.le_of_ble_eq_true rfl) dX5_takeLetters_2 (fun H locs hP hD hS => ?_)
  have hP : va_P D vwCl (wX5_takeLetters cy aR qR aH aH (0 : Int64) vR vR_tape) H := hP
  have hD : va_D A (wX5_takeLetters cy aR qR aH aH (0 : Int64) vR vR_tape) := hD
  refine lv_aload_n hx hb dX5_takeLetters_5 rfl (lv_at hl 0 rfl) ?_
  refine va_get (D := D) (ci := 4) (v := .int (vR 8)) (C := RX5) (T := TX5) (N := 13) hx hb ht0 niX5 hown hK hP 0 rfl rfl 8 (by decide) (ht0 _ wd265) (fun _ h9 => h9) rfl dX5_takeLetters_6 ?_
  refine lv_istore_n (lv' := [(1, .int (vR 8)), (0, .ref aR)]) hx hb dX5_takeLetters_9 rfl hl (by decide) rfl (fun ls hl => ?_)
  exact L10 5000 (vR 8) (0 : Int64) vR H locs ls hP hD hS (lv_sub hl [1, 0] rfl) hok
