def wsX5_readLine : List Cond := .code yX5_readLine cX5_readLine 1 (some .boolean) :: W0
abbrev wX5_readLine (cy : Nat → ClassId) (aR : Nat) (qR : Nat → Nat) (aH : Nat) (qH : Nat → Nat) (qU : Nat → Nat) (vR_j11 : Int64) (vR : Nat → Int32) (vR_tape : Nat → Int32) (vH : Nat → Int32) (vU : Nat → Int32) (vH_markNights : Nat → Int32) (vH_markPlaces : Nat → Int32) (vH_markFound : Nat → Int32) (vR_thingNames : Nat → Int64) (vR_ringNames : Nat → Int64) (vH_places : Nat → Int32) (vU_things : Nat → Int32) (vU_cells : Nat → Int32) (vU_nights : Nat → Int32) (vU_worths : Nat → Int32) (vH_firstCells : Nat → Int32) (vH_kinds : Nat → Int32) (vH_sizes : Nat → Int32) (vH_doorOne : Nat → Int32) (vH_doorTwo : Nat → Int32) (vH_width : Nat → Int32) (vH_sorts : Nat → Int32) (vH_next : Nat → Int32) : va_W := [(aR, oX5 vR qR vR_j11 aH), (qR 0, rB cy 900 vR_tape), (aH, oX4 vH qH), (qH 7, oX7 vU qU), (qH 17, rI cy 6 vH_markNights), (qH 18, rI cy 6 vH_markPlaces), (qH 19, rZ cy 6 vH_markFound), (qR 4, rJ cy 7 vR_thingNames), (qR 3, rJ cy 4 vR_ringNames), (qH 9, rI cy 4 vH_places), (qU 1, rI cy 6 vU_things), (qU 2, rI cy 6 vU_cells), (qU 3, rI cy 6 vU_nights), (qU 4, rI cy 6 vU_worths), (qH 16, rI cy 7 vH_firstCells), (qH 14, rI cy 7 vH_kinds), (qH 15, rI cy 7 vH_sizes), (qH 12, rI cy 5 vH_doorOne), (qH 13, rI cy 5 vH_doorTwo), (qH 11, rI cy 36 vH_width), (qH 8, rI cy 4 vH_sorts), (qH 10, rI cy 36 vH_next)]
set_option maxHeartbeats 4000000 in
set_option maxRecDepth 100000 in
theorem kX5_readLine (l : Launch) (D : va_G) (cy : Nat → ClassId) (ad : (Nat → Nat) × (Nat → Nat)) (sz : Nat) (aR : Nat) (qR : Nat → Nat) (aH : Nat) (qH : Nat → Nat) (qU : Nat → Nat) (vR_j11 : Int64) (vR : Nat → Int32) (vR_tape : Nat → Int32) (vH : Nat → Int32) (vU : Nat → Int32) (vH_markNights : Nat → Int32) (vH_markPlaces : Nat → Int32) (vH_markFound : Nat → Int32) (vR_thingNames : Nat → Int64) (vR_ringNames : Nat → Int64) (vH_places : Nat → Int32) (vU_things : Nat → Int32) (vU_cells : Nat → Int32) (vU_nights : Nat → Int32) (vU_worths : Nat → Int32) (vH_firstCells : Nat → Int32) (vH_kinds : Nat → Int32) (vH_sizes : Nat → Int32) (vH_doorOne : Nat → Int32) (vH_doorTwo : Nat → Int32) (vH_width : Nat → Int32) (vH_sorts : Nat → Int32) (vH_next : Nat → Int32) (zr : Int32) (z_vR_j11 : Int64) (z_vR : Nat → Int32) (z_vH : Nat → Int32) (z_vU : Nat → Int32) (z_vH_markNights : Nat → Int32) (z_vH_markPlaces : Nat → Int32) (z_vH_markFound : Nat → Int32) (z_vR_thingNames : Nat → Int64) (z_vR_ringNames : Nat → Int64) (z_vH_places : Nat → Int32) (z_vU_things : Nat → Int32) (z_vU_cells : Nat → Int32) (z_vU_nights : Nat → Int32) (z_vU_worths : Nat → Int32) (z_vH_firstCells : Nat → Int32) (z_vH_kinds : Nat → Int32) (z_vH_sizes : Nat → Int32) (z_vH_doorOne : Nat → Int32) (z_vH_doorTwo : Nat → Int32) (z_vH_width : Nat → Int32) (z_vH_sorts : Nat → Int32) (z_vH_next : Nat → Int32) (hok : fX5_readLine vR_j11 vR vR_tape vH vU vH_markNights vH_markPlaces vH_markFound vR_thingNames vR_ringNames vH_places vU_things vU_cells vU_nights vU_worths vH_firstCells vH_kinds vH_sizes vH_doorOne vH_doorTwo vH_width vH_sorts vH_next = some (zr, z_vR_j11, z_vR, z_vH, z_vU, z_vH_markNights, z_vH_markPlaces, z_vH_markFound, z_vR_thingNames, z_vR_ringNames, z_vH_places, z_vU_things, z_vU_cells, z_vU_nights, z_vU_worths, z_vH_firstCells, z_vH_kinds, z_vH_sizes, z_vH_doorOne, z_vH_doorTwo, z_vH_width, z_vH_sorts, z_vH_next)) (A : Nat → Prop) (hAe : va_A (wX5_readLine cy aR qR aH qH qU vR_j11 vR vR_tape vH vU vH_markNights vH_markPlaces vH_markFound vR_thingNames vR_ringNames vH_places vU_things vU_cells vU_nights vU_worths vH_firstCells vH_kinds vH_sizes vH_doorOne vH_doorTwo vH_width vH_sorts vH_next) sz = A) : Met l yX5_readLine wsX5_readLine ({ frames := 8, cells := 0, slots := 0, locals := 179 } : Room) (kPreS D cy ad [.ref aR] (wX5_readLine cy aR qR aH qH qU vR_j11 vR vR_tape vH vU vH_markNights vH_markPlaces vH_markFound vR_thingNames vR_ringNames vH_places vU_things vU_cells vU_nights vU_worths vH_firstCells vH_kinds vH_sizes vH_doorOne vH_doorTwo vH_width vH_sorts vH_next) sz A) (kQi D cy zr A (wX5_readLine cy aR qR aH qH qU z_vR_j11 z_vR vR_tape z_vH z_vU z_vH_markNights z_vH_markPlaces z_vH_markFound z_vR_thingNames z_vR_ringNames z_vH_places z_vU_things z_vU_cells z_vU_nights z_vU_worths z_vH_firstCells z_vH_kinds z_vH_sizes z_vH_doorOne z_vH_doorTwo z_vH_width z_vH_sorts z_vH_next)) 0 0 A := by
  refine Met.ofW (cc := cX5_readLine) (maxL := 1) (ret := (some .boolean)) (by decide) rfl ?_
  intro p e s m args below meth c s₁ B hml hv
  obtain ⟨rfl, ⟨hsz, hP, hK, hD0, hN⟩, hSt⟩ := hv
  have hx := B.exec
  have hb := B.bytes
  have hr := B.returns
  have ht0 : ∀ w ∈ W0, w.before _ s = true := fun w h => atoms_spec (ws := wsX5_readLine) B.pre w (List.mem_cons_of_mem _ h)
  have hown : s.vm.findClass RX5 = some m.cls := findClass_of_methodNamed B.named
  have hlocks := B.notSynchronized
  subst hsz
  have hD : va_D A (wX5_readLine cy aR qR aH qH qU vR_j11 vR vR_tape vH vU vH_markNights vH_markPlaces vH_markFound vR_thingNames vR_ringNames vH_places vU_things vU_cells vU_nights vU_worths vH_firstCells vH_kinds vH_sizes vH_doorOne vH_doorTwo vH_width vH_sorts vH_next) := by rw [← hAe]; exact hD0.self
  have hA : ∀ q : Nat, s.heap.size ≤ q → A q := fun q h => by rw [← hAe]; exact Or.inr h
  have hS : va_S A s.heap s.heap [] := va_S.rf
  have hl := lv_entry ([.ref aR]) (n := 1) (Nat.le_of_ble_eq_true rfl)
  rw [lg_entry_eq]
  generalize (lg_sl ([.ref aR]) ++ List.replicate (1 - (lg_sl ([.ref aR])).length) Slot.unset).toArray = ls at hl ⊢
  have hl : lv_has ls 1 [(0, .ref aR)] := hl
  generalize hQe : MQ below (kQi D cy zr A (wX5_readLine cy aR qR aH qH qU z_vR_j11 z_vR vR_tape z_vH z_vU z_vH_markNights z_vH_markPlaces z_vH_markFound z_vR_thingNames z_vR_ringNames z_vH_places z_vU_things z_vU_cells z_vU_nights z_vU_worths z_vH_firstCells z_vH_kinds z_vH_sizes z_vH_doorOne z_vH_doorTwo z_vH_width z_vH_sorts z_vH_next)) ([.ref aR] : List Value).toArray s 0 0 A = Q
  have J138 : ∀ (t0_138 : Int32) (vH_markFound_138 : Nat → Int32) (vH_markNights_138 : Nat → Int32) (vH_markPlaces_138 : Nat → Int32) (vU_cells_138 : Nat → Int32) (vU_nights_138 : Nat → Int32) (vU_things_138 : Nat → Int32) (vU_worths_138 : Nat → Int32) (vR_11_138 : Int64) (vH_138 : Nat → Int32) (vR_138 : Nat → Int32) (vU_138 : Nat → Int32), ∀ (H : Heap) (locs : List Loc) (ls : Array Slot), va_P D vwCl (wX5_readLine cy aR qR aH qH qU vR_11_138 vR_138 vR_tape vH_138 vU_138 vH_markNights_138 vH_markPlaces_138 vH_markFound_138 vR_thingNames vR_ringNames vH_places vU_things_138 vU_cells_138 vU_nights_138 vU_worths_138 vH_firstCells vH_kinds vH_sizes vH_doorOne vH_doorTwo vH_width vH_sorts vH_next) H → va_D A (wX5_readLine cy aR qR aH qH qU vR_11_138 vR_138 vR_tape vH_138 vU_138 vH_markNights_138 vH_markPlaces_138 vH_markFound_138 vR_thingNames vR_ringNames vH_places vU_things_138 vU_cells_138 vU_nights_138 vU_worths_138 vH_firstCells vH_kinds vH_sizes vH_doorOne vH_doorTwo vH_width vH_sorts vH_next) → va_S A s.heap H locs → lv_has ls 1 [] → fX5_readLine_J138 vR_thingNames vR_ringNames vH_places vH_firstCells vH_kinds vH_sizes vH_doorOne vH_doorTwo vH_width vH_sorts vH_next t0_138 vH_markFound_138 vH_markNights_138 vH_markPlaces_138 vU_cells_138 vU_nights_138 vU_things_138 vU_worths_138 vR_11_138 vH_138 vR_138 vU_138 = some (zr, z_vR_j11, z_vR, z_vH, z_vU, z_vH_markNights, z_vH_markPlaces, z_vH_markFound, z_vR_thingNames, z_vR_ringNames, z_vH_places, z_vU_things, z_vU_cells, z_vU_nights, z_vU_worths, z_vH_firstCells, z_vH_kinds, z_vH_sizes, z_vH_doorOne, z_vH_doorTwo, z_vH_width, z_vH_sorts, z_vH_next) → W p l e ({ frames := 8, cells := 0, slots := 0, locals := 179 } : Room) s m ([.ref aR] : List Value).toArray below meth c H locs 0 0 Q (F0 m 138 ls [.int t0_138]) := by
    intro t0_138 vH_markFound_138 vH_markNights_138 vH_markPlaces_138 vU_cells_138 vU_nights_138 vU_things_138 vU_worths_138 vR_11_138 vH_138 vR_138 vU_138 H locs ls hP hD hS hl hok
    unfold fX5_readLine_J138 at hok
    obtain ⟨g138, hok⟩ := gd_some hok
    cases hok
    subst hQe; exact W.zret hx hb hr (isB_nar g138) (fun t ht hW => ⟨⟨_, (), rfl, rfl, by rw [ht]; exact hP, va_K.moved hW.alike hK, hD⟩, hS.F ht⟩) hS.2.2 dX5_readLine_138
  have J29 : ∀ (H : Heap) (locs : List Loc) (ls : Array Slot), va_P D vwCl (wX5_readLine cy aR qR aH qH qU vR_j11 vR vR_tape vH vU vH_markNights vH_markPlaces vH_markFound vR_thingNames vR_ringNames vH_places vU_things vU_cells vU_nights vU_worths vH_firstCells vH_kinds vH_sizes vH_doorOne vH_doorTwo vH_width vH_sorts vH_next) H → va_D A (wX5_readLine cy aR qR aH qH qU vR_j11 vR vR_tape vH vU vH_markNights vH_markPlaces vH_markFound vR_thingNames vR_ringNames vH_places vU_things vU_cells vU_nights vU_worths vH_firstCells vH_kinds vH_sizes vH_doorOne vH_doorTwo vH_width vH_sorts vH_next) → va_S A s.heap H locs → lv_has ls 1 [(0, .ref aR)] → fX5_readLine_J29 vR_j11 vR vH vU vH_markNights vH_markPlaces vH_markFound vR_thingNames vR_ringNames vH_places vU_things vU_cells vU_nights vU_worths vH_firstCells vH_kinds vH_sizes vH_doorOne vH_doorTwo vH_width vH_sorts vH_next = some (zr, z_vR_j11, z_vR, z_vH, z_vU, z_vH_markNights, z_vH_markPlaces, z_vH_markFound, z_vR_thingNames, z_vR_ringNames, z_vH_places, z_vU_things, z_vU_cells, z_vU_nights, z_vU_worths, z_vH_firstCells, z_vH_kinds, z_vH_sizes, z_vH_doorOne, z_vH_doorTwo, z_vH_width, z_vH_sorts, z_vH_next) → W p l e ({ frames := 8, cells := 0, slots := 0, locals := 179 } : Room) s m ([.ref aR] : List Value).toArray below meth c H locs 0 0 Q (F0 m 29 ls []) := by
    intro  H locs ls hP hD hS hl hok
    unfold fX5_readLine_J29 at hok
    refine lv_aload_n hx hb dX5_readLine_29 rfl (lv_at hl 0 rfl) ?_
    refine lv_iconst (v := 1) hx hb dX5_readLine_30 (by decide) ?_
    obtain ⟨⟨r31, vR_31⟩, hc31, hok⟩ := k_bind hok
    try dsimp only at hok
    refine kCi (wc := (wX5_fails cy aR qR aH vR_j11 vR)) (wc2 := (wX5_fails cy aR qR aH vR_j11 vR_31)) (wr := [(qR 0, rB cy 900 vR_tape), (aH, oX4 vH qH), (qH 7, oX7 vU qU), (qH 17, rI cy 6 vH_markNights), (qH 18, rI cy 6 vH_markPlaces), (qH 19, rZ cy 6 vH_markFound), (qR 4, rJ cy 7 vR_thingNames), (qR 3, rJ cy 4 vR_ringNames), (qH 9, rI cy 4 vH_places), (qU 1, rI cy 6 vU_things), (qU 2, rI cy 6 vU_cells), (qU 3, rI cy 6 vU_nights), (qU 4, rI cy 6 vU_worths), (qH 16, rI cy 7 vH_firstCells), (qH 14, rI cy 7 vH_kinds), (qH 15, rI cy 7 vH_sizes), (qH 12, rI cy 5 vH_doorOne), (qH 13, rI cy 5 vH_doorTwo), (qH 11, rI cy 36 vH_width), (qH 8, rI cy 4 vH_sorts), (qH 10, rI cy 36 vH_next)]) (ws2 := (wX5_readLine cy aR qR aH qH qU vR_j11 vR_31 vR_tape vH vU vH_markNights vH_markPlaces vH_markFound vR_thingNames vR_ringNames vH_places vU_things vU_cells vU_nights vU_worths vH_firstCells vH_kinds vH_sizes vH_doorOne vH_doorTwo vH_width vH_sorts vH_next)) (kRunV (As := [.int 1]) (rest := []) ⟨hx, hb, hml, hown, ht0⟩ (kX5_fails l D cy _ aR qR aH vR_j11 vR (1 : Int32) r31 vR_31 hc31 _ rfl) (cwV 1 ht0 (gV wd332 wd333 wd334 wd276 wd335) rfl rfl rfl (by decide +kernel) ⟨Nat.le_of_ble_eq_true rfl, Nat.le_of_ble_eq_true rfl⟩) hK hN hP hD [0] rfl (by decide) 0 4 rfl rfl rfl hl.1 rfl (Nat.le_of_ble_eq_true rfl) dX5_readLine_31 ⟨Nat.zero_le _, Nat.zero_le _⟩) hP hD hS hA [0] [1, 2, 3, 4, 5, 6, 7, 8, 9, 10, 11, 12, 13, 14, 15, 16, 17, 18, 19, 20, 21] rfl rfl (by decide) (by decide) [21, 0, 1, 2, 3, 4, 5, 6, 7, 8, 9, 10, 11, 12, 13, 14, 15, 16, 17, 18, 19, 20] (by decide) rfl rfl (fun H locs hP hD hS => ?_)
    obtain ⟨g34, hok⟩ := gd_some hok
    cases hok
    subst hQe; exact W.zret hx hb hr (isB_nar g34) (fun t ht hW => ⟨⟨_, (), rfl, rfl, by rw [ht]; exact hP, va_K.moved hW.alike hK, hD⟩, hS.F ht⟩) hS.2.2 dX5_readLine_34
  unfold fX5_readLine at hok
  obtain ⟨H, hH⟩ : ∃ H, H = s.heap := ⟨_, rfl⟩
  obtain ⟨locs, hlc⟩ : ∃ x : List Loc, x = [] := ⟨_, rfl⟩
  have hP : va_P D vwCl (wX5_readLine cy aR qR aH qH qU vR_j11 vR vR_tape vH vU vH_markNights vH_markPlaces vH_markFound vR_thingNames vR_ringNames vH_places vU_things vU_cells vU_nights vU_worths vH_firstCells vH_kinds vH_sizes vH_doorOne vH_doorTwo vH_width vH_sorts vH_next) H := by rw [hH]; exact hP
  have hS : va_S A s.heap H locs := by rw [hH, hlc]; exact hS
  rw [show W p l e _ s m _ below meth c s.heap [] = W p l e _ s m _ below meth c H locs from by rw [hH, hlc]]
  refine lv_aload_n hx hb dX5_readLine_0 rfl (lv_at hl 0 rfl) ?_
  refine va_ldcS hx hb hown (hSt.2.1 _ (List.mem_of_getElem? (i := 0) rfl)) dX5_readLine_1 ?_
  obtain ⟨r3, hc3, hok⟩ := k_bind hok
  refine kCi (wc := (wX5_says cy aR qR aH vR_j11 vR vR_tape)) (wc2 := (wX5_says cy aR qR aH vR_j11 vR vR_tape)) (wr := [(aH, oX4 vH qH), (qH 7, oX7 vU qU), (qH 17, rI cy 6 vH_markNights), (qH 18, rI cy 6 vH_markPlaces), (qH 19, rZ cy 6 vH_markFound), (qR 4, rJ cy 7 vR_thingNames), (qR 3, rJ cy 4 vR_ringNames), (qH 9, rI cy 4 vH_places), (qU 1, rI cy 6 vU_things), (qU 2, rI cy 6 vU_cells), (qU 3, rI cy 6 vU_nights), (qU 4, rI cy 6 vU_worths), (qH 16, rI cy 7 vH_firstCells), (qH 14, rI cy 7 vH_kinds), (qH 15, rI cy 7 vH_sizes), (qH 12, rI cy 5 vH_doorOne), (qH 13, rI cy 5 vH_doorTwo), (qH 11, rI cy 36 vH_width), (qH 8, rI cy 4 vH_sorts), (qH 10, rI cy 36 vH_next)]) (ws2 := (wX5_readLine cy aR qR aH qH qU vR_j11 vR vR_tape vH vU vH_markNights vH_markPlaces vH_markFound vR_thingNames vR_ringNames vH_places vU_things vU_cells vU_nights vU_worths vH_firstCells vH_kinds vH_sizes vH_doorOne vH_doorTwo vH_width vH_sorts vH_next)) (kRunVS (As := [.ref (ad.1 8)]) (rest := []) ⟨hx, hb, hml, hown, ht0⟩ (kX5_says l D cy ad _ aR qR aH vR_j11 vR vR_tape 8 r3 hc3 _ rfl) (cwV 1 ht0 (gV wd324 wd325 wd326 wd276 wd327) rfl rfl rfl (by decide +kernel) ⟨Nat.le_of_ble_eq_true rfl, Nat.le_of_ble_eq_true rfl⟩) hK hN hP hD hSt hS hA [0, 1] rfl (by decide) 0 4 rfl rfl rfl hl.1 rfl (Nat.le_of_ble_eq_true rfl) dX5_readLine_3 ⟨Nat.zero_le _, Nat.zero_le _⟩) hP hD hS hA [0, 1] [2, 3, 4, 5, 6, 7, 8, 9, 10, 11, 12, 13, 14, 15, 16, 17, 18, 19, 20, 21] rfl rfl (by decide) (by decide) [20, 21, 0, 1, 2, 3, 4, 5, 6, 7, 8, 9, 10, 11, 12, 13, 14, 15, 16, 17, 18, 19] (by decide) rfl rfl (fun H locs hP hD hS => ?_)
  refine lv_if_eq (tgt := 14) hx hb dX5_readLine_6 (by decide) (fun c6 => ?_) (fun c6 => ?_)
  · have hok := k_pos c6 hok
    refine lv_aload_n hx hb dX5_readLine_14 rfl (lv_at hl 0 rfl) ?_
    refine va_get (D := D) (ci := 4) (v := .int (vR 7)) (C := RX5) (T := TX5) (N := 13) hx hb ht0 niX5 hown hK hP 0 rfl rfl 7 (by decide) (ht0 _ wd269) (fun _ h9 => h9) rfl dX5_readLine_15 ?_
    refine lv_iconst (v := 1) hx hb dX5_readLine_18 (by decide) ?_
    refine lv_icmp_ne (tgt := 29) hx hb dX5_readLine_19 (by decide) (fun c19 => ?_) (fun c19 => ?_)
    · have hok := k_neg c19 hok
      exact J29  H locs ls hP hD hS (lv_sub hl [0] rfl) hok
    · have hok := k_pos c19 hok
      refine lv_aload_n hx hb dX5_readLine_22 rfl (lv_at hl 0 rfl) ?_
      obtain ⟨r23, hc23, hok⟩ := k_bind hok
      refine kCi (wc := (wX5_isName cy aR qR aH vR_j11 vR vR_tape)) (wc2 := (wX5_isName cy aR qR aH vR_j11 vR vR_tape)) (wr := [(aH, oX4 vH qH), (qH 7, oX7 vU qU), (qH 17, rI cy 6 vH_markNights), (qH 18, rI cy 6 vH_markPlaces), (qH 19, rZ cy 6 vH_markFound), (qR 4, rJ cy 7 vR_thingNames), (qR 3, rJ cy 4 vR_ringNames), (qH 9, rI cy 4 vH_places), (qU 1, rI cy 6 vU_things), (qU 2, rI cy 6 vU_cells), (qU 3, rI cy 6 vU_nights), (qU 4, rI cy 6 vU_worths), (qH 16, rI cy 7 vH_firstCells), (qH 14, rI cy 7 vH_kinds), (qH 15, rI cy 7 vH_sizes), (qH 12, rI cy 5 vH_doorOne), (qH 13, rI cy 5 vH_doorTwo), (qH 11, rI cy 36 vH_width), (qH 8, rI cy 4 vH_sorts), (qH 10, rI cy 36 vH_next)]) (ws2 := (wX5_readLine cy aR qR aH qH qU vR_j11 vR vR_tape vH vU vH_markNights vH_markPlaces vH_markFound vR_thingNames vR_ringNames vH_places vU_things vU_cells vU_nights vU_worths vH_firstCells vH_kinds vH_sizes vH_doorOne vH_doorTwo vH_width vH_sorts vH_next)) (kRunVS (As := []) (rest := []) ⟨hx, hb, hml, hown, ht0⟩ (kX5_isName l D cy ad _ aR qR aH vR_j11 vR vR_tape r23 hc23 _ rfl) (cwV 0 ht0 (gV wd366 wd367 wd368 wd276 wd369) rfl rfl rfl (by decide +kernel) ⟨Nat.le_of_ble_eq_true rfl, Nat.le_of_ble_eq_true rfl⟩) hK hN hP hD hSt hS hA [0, 1] rfl (by decide) 0 4 rfl rfl rfl hl.1 rfl (Nat.le_of_ble_eq_true rfl) dX5_readLine_23 ⟨Nat.zero_le _, Nat.zero_le _⟩) hP hD hS hA [0, 1] [2, 3, 4, 5, 6, 7, 8, 9, 10, 11, 12, 13, 14, 15, 16, 17, 18, 19, 20, 21] rfl rfl (by decide) (by decide) [20, 21, 0, 1, 2, 3, 4, 5, 6, 7, 8, 9, 10, 11, 12, 13, 14, 15, 16, 17, 18, 19] (by decide) rfl rfl (fun H locs hP hD hS => ?_)
      refine lv_if_eq (tgt := 35) hx hb dX5_readLine_26 (by decide) (fun c26 => ?_) (fun c26 => ?_)
      · have hok := k_pos c26 hok
        refine lv_aload_n hx hb dX5_readLine_35 rfl (lv_at hl 0 rfl) ?_
        refine va_get (D := D) (ci := 4) (v := .int (vR 5)) (C := RX5) (T := TX5) (N := 13) hx hb ht0 niX5 hown hK hP 0 rfl rfl 5 (by decide) (ht0 _ wd340) (fun _ h9 => h9) rfl dX5_readLine_36 ?_
        refine lv_if_ne (tgt := 49) hx hb dX5_readLine_39 (by decide) (fun c39 => ?_) (fun c39 => ?_)
        · have hok := k_neg c39 hok
          refine lv_aload_n hx hb dX5_readLine_49 rfl (lv_at hl 0 rfl) ?_
          obtain ⟨r50, hc50, hok⟩ := k_bind hok
          refine kCi (wc := (wX5_isMany cy aR qR aH qH qU vR_j11 vR vR_tape vH vU)) (wc2 := (wX5_isMany cy aR qR aH qH qU vR_j11 vR vR_tape vH vU)) (wr := [(qH 17, rI cy 6 vH_markNights), (qH 18, rI cy 6 vH_markPlaces), (qH 19, rZ cy 6 vH_markFound), (qR 4, rJ cy 7 vR_thingNames), (qR 3, rJ cy 4 vR_ringNames), (qH 9, rI cy 4 vH_places), (qU 1, rI cy 6 vU_things), (qU 2, rI cy 6 vU_cells), (qU 3, rI cy 6 vU_nights), (qU 4, rI cy 6 vU_worths), (qH 16, rI cy 7 vH_firstCells), (qH 14, rI cy 7 vH_kinds), (qH 15, rI cy 7 vH_sizes), (qH 12, rI cy 5 vH_doorOne), (qH 13, rI cy 5 vH_doorTwo), (qH 11, rI cy 36 vH_width), (qH 8, rI cy 4 vH_sorts), (qH 10, rI cy 36 vH_next)]) (ws2 := (wX5_readLine cy aR qR aH qH qU vR_j11 vR vR_tape vH vU vH_markNights vH_markPlaces vH_markFound vR_thingNames vR_ringNames vH_places vU_things vU_cells vU_nights vU_worths vH_firstCells vH_kinds vH_sizes vH_doorOne vH_doorTwo vH_width vH_sorts vH_next)) (kRunVS (As := []) (rest := []) ⟨hx, hb, hml, hown, ht0⟩ (kX5_isMany l D cy ad _ aR qR aH qH qU vR_j11 vR vR_tape vH vU r50 hc50 _ rfl) (cwV 0 ht0 (gV wd429 wd430 wd431 wd276 wd432) rfl rfl rfl (by decide +kernel) ⟨Nat.le_of_ble_eq_true rfl, Nat.le_of_ble_eq_true rfl⟩) hK hN hP hD hSt hS hA [0, 1, 2, 3] rfl (by decide) 0 4 rfl rfl rfl hl.1 rfl (Nat.le_of_ble_eq_true rfl) dX5_readLine_50 ⟨Nat.zero_le _, Nat.zero_le _⟩) hP hD hS hA [0, 1, 2, 3] [4, 5, 6, 7, 8, 9, 10, 11, 12, 13, 14, 15, 16, 17, 18, 19, 20, 21] rfl rfl (by decide) (by decide) [18, 19, 20, 21, 0, 1, 2, 3, 4, 5, 6, 7, 8, 9, 10, 11, 12, 13, 14, 15, 16, 17] (by decide) rfl rfl (fun H locs hP hD hS => ?_)
          refine lv_if_eq (tgt := 62) hx hb dX5_readLine_53 (by decide) (fun c53 => ?_) (fun c53 => ?_)
          · have hok := k_pos c53 hok
            refine lv_aload_n hx hb dX5_readLine_62 rfl (lv_at hl 0 rfl) ?_
            refine va_ldcS hx hb hown (hSt.2.1 _ (List.mem_of_getElem? (i := 1) rfl)) dX5_readLine_63 ?_
            obtain ⟨r65, hc65, hok⟩ := k_bind hok
            refine kCi (wc := (wX5_says cy aR qR aH vR_j11 vR vR_tape)) (wc2 := (wX5_says cy aR qR aH vR_j11 vR vR_tape)) (wr := [(aH, oX4 vH qH), (qH 7, oX7 vU qU), (qH 17, rI cy 6 vH_markNights), (qH 18, rI cy 6 vH_markPlaces), (qH 19, rZ cy 6 vH_markFound), (qR 4, rJ cy 7 vR_thingNames), (qR 3, rJ cy 4 vR_ringNames), (qH 9, rI cy 4 vH_places), (qU 1, rI cy 6 vU_things), (qU 2, rI cy 6 vU_cells), (qU 3, rI cy 6 vU_nights), (qU 4, rI cy 6 vU_worths), (qH 16, rI cy 7 vH_firstCells), (qH 14, rI cy 7 vH_kinds), (qH 15, rI cy 7 vH_sizes), (qH 12, rI cy 5 vH_doorOne), (qH 13, rI cy 5 vH_doorTwo), (qH 11, rI cy 36 vH_width), (qH 8, rI cy 4 vH_sorts), (qH 10, rI cy 36 vH_next)]) (ws2 := (wX5_readLine cy aR qR aH qH qU vR_j11 vR vR_tape vH vU vH_markNights vH_markPlaces vH_markFound vR_thingNames vR_ringNames vH_places vU_things vU_cells vU_nights vU_worths vH_firstCells vH_kinds vH_sizes vH_doorOne vH_doorTwo vH_width vH_sorts vH_next)) (kRunVS (As := [.ref (ad.1 18)]) (rest := []) ⟨hx, hb, hml, hown, ht0⟩ (kX5_says l D cy ad _ aR qR aH vR_j11 vR vR_tape 18 r65 hc65 _ rfl) (cwV 1 ht0 (gV wd324 wd325 wd326 wd276 wd327) rfl rfl rfl (by decide +kernel) ⟨Nat.le_of_ble_eq_true rfl, Nat.le_of_ble_eq_true rfl⟩) hK hN hP hD hSt hS hA [0, 1] rfl (by decide) 0 4 rfl rfl rfl hl.1 rfl (Nat.le_of_ble_eq_true rfl) dX5_readLine_65 ⟨Nat.zero_le _, Nat.zero_le _⟩) hP hD hS hA [0, 1] [2, 3, 4, 5, 6, 7, 8, 9, 10, 11, 12, 13, 14, 15, 16, 17, 18, 19, 20, 21] rfl rfl (by decide) (by decide) [20, 21, 0, 1, 2, 3, 4, 5, 6, 7, 8, 9, 10, 11, 12, 13, 14, 15, 16, 17, 18, 19] (by decide) rfl rfl (fun H locs hP hD hS => ?_)
            refine lv_if_eq (tgt := 76) hx hb dX5_readLine_68 (by decide) (fun c68 => ?_) (fun c68 => ?_)
            · have hok := k_pos c68 hok
              refine lv_aload_n hx hb dX5_readLine_76 rfl (lv_at hl 0 rfl) ?_
              refine va_ldcS hx hb hown (hSt.2.1 _ (List.mem_of_getElem? (i := 2) rfl)) dX5_readLine_77 ?_
              obtain ⟨r79, hc79, hok⟩ := k_bind hok
              refine kCi (wc := (wX5_says cy aR qR aH vR_j11 vR vR_tape)) (wc2 := (wX5_says cy aR qR aH vR_j11 vR vR_tape)) (wr := [(aH, oX4 vH qH), (qH 7, oX7 vU qU), (qH 17, rI cy 6 vH_markNights), (qH 18, rI cy 6 vH_markPlaces), (qH 19, rZ cy 6 vH_markFound), (qR 4, rJ cy 7 vR_thingNames), (qR 3, rJ cy 4 vR_ringNames), (qH 9, rI cy 4 vH_places), (qU 1, rI cy 6 vU_things), (qU 2, rI cy 6 vU_cells), (qU 3, rI cy 6 vU_nights), (qU 4, rI cy 6 vU_worths), (qH 16, rI cy 7 vH_firstCells), (qH 14, rI cy 7 vH_kinds), (qH 15, rI cy 7 vH_sizes), (qH 12, rI cy 5 vH_doorOne), (qH 13, rI cy 5 vH_doorTwo), (qH 11, rI cy 36 vH_width), (qH 8, rI cy 4 vH_sorts), (qH 10, rI cy 36 vH_next)]) (ws2 := (wX5_readLine cy aR qR aH qH qU vR_j11 vR vR_tape vH vU vH_markNights vH_markPlaces vH_markFound vR_thingNames vR_ringNames vH_places vU_things vU_cells vU_nights vU_worths vH_firstCells vH_kinds vH_sizes vH_doorOne vH_doorTwo vH_width vH_sorts vH_next)) (kRunVS (As := [.ref (ad.1 11)]) (rest := []) ⟨hx, hb, hml, hown, ht0⟩ (kX5_says l D cy ad _ aR qR aH vR_j11 vR vR_tape 11 r79 hc79 _ rfl) (cwV 1 ht0 (gV wd324 wd325 wd326 wd276 wd327) rfl rfl rfl (by decide +kernel) ⟨Nat.le_of_ble_eq_true rfl, Nat.le_of_ble_eq_true rfl⟩) hK hN hP hD hSt hS hA [0, 1] rfl (by decide) 0 4 rfl rfl rfl hl.1 rfl (Nat.le_of_ble_eq_true rfl) dX5_readLine_79 ⟨Nat.zero_le _, Nat.zero_le _⟩) hP hD hS hA [0, 1] [2, 3, 4, 5, 6, 7, 8, 9, 10, 11, 12, 13, 14, 15, 16, 17, 18, 19, 20, 21] rfl rfl (by decide) (by decide) [20, 21, 0, 1, 2, 3, 4, 5, 6, 7, 8, 9, 10, 11, 12, 13, 14, 15, 16, 17, 18, 19] (by decide) rfl rfl (fun H locs hP hD hS => ?_)
              refine lv_if_eq (tgt := 90) hx hb dX5_readLine_82 (by decide) (fun c82 => ?_) (fun c82 => ?_)
              · have hok := k_pos c82 hok
                refine lv_aload_n hx hb dX5_readLine_90 rfl (lv_at hl 0 rfl) ?_
                refine va_ldcS hx hb hown (hSt.2.1 _ (List.mem_of_getElem? (i := 3) rfl)) dX5_readLine_91 ?_
                obtain ⟨r93, hc93, hok⟩ := k_bind hok
                refine kCi (wc := (wX5_says cy aR qR aH vR_j11 vR vR_tape)) (wc2 := (wX5_says cy aR qR aH vR_j11 vR vR_tape)) (wr := [(aH, oX4 vH qH), (qH 7, oX7 vU qU), (qH 17, rI cy 6 vH_markNights), (qH 18, rI cy 6 vH_markPlaces), (qH 19, rZ cy 6 vH_markFound), (qR 4, rJ cy 7 vR_thingNames), (qR 3, rJ cy 4 vR_ringNames), (qH 9, rI cy 4 vH_places), (qU 1, rI cy 6 vU_things), (qU 2, rI cy 6 vU_cells), (qU 3, rI cy 6 vU_nights), (qU 4, rI cy 6 vU_worths), (qH 16, rI cy 7 vH_firstCells), (qH 14, rI cy 7 vH_kinds), (qH 15, rI cy 7 vH_sizes), (qH 12, rI cy 5 vH_doorOne), (qH 13, rI cy 5 vH_doorTwo), (qH 11, rI cy 36 vH_width), (qH 8, rI cy 4 vH_sorts), (qH 10, rI cy 36 vH_next)]) (ws2 := (wX5_readLine cy aR qR aH qH qU vR_j11 vR vR_tape vH vU vH_markNights vH_markPlaces vH_markFound vR_thingNames vR_ringNames vH_places vU_things vU_cells vU_nights vU_worths vH_firstCells vH_kinds vH_sizes vH_doorOne vH_doorTwo vH_width vH_sorts vH_next)) (kRunVS (As := [.ref (ad.1 6)]) (rest := []) ⟨hx, hb, hml, hown, ht0⟩ (kX5_says l D cy ad _ aR qR aH vR_j11 vR vR_tape 6 r93 hc93 _ rfl) (cwV 1 ht0 (gV wd324 wd325 wd326 wd276 wd327) rfl rfl rfl (by decide +kernel) ⟨Nat.le_of_ble_eq_true rfl, Nat.le_of_ble_eq_true rfl⟩) hK hN hP hD hSt hS hA [0, 1] rfl (by decide) 0 4 rfl rfl rfl hl.1 rfl (Nat.le_of_ble_eq_true rfl) dX5_readLine_93 ⟨Nat.zero_le _, Nat.zero_le _⟩) hP hD hS hA [0, 1] [2, 3, 4, 5, 6, 7, 8, 9, 10, 11, 12, 13, 14, 15, 16, 17, 18, 19, 20, 21] rfl rfl (by decide) (by decide) [20, 21, 0, 1, 2, 3, 4, 5, 6, 7, 8, 9, 10, 11, 12, 13, 14, 15, 16, 17, 18, 19] (by decide) rfl rfl (fun H locs hP hD hS => ?_)
                refine lv_if_eq (tgt := 104) hx hb dX5_readLine_96 (by decide) (fun c96 => ?_) (fun c96 => ?_)
                · have hok := k_pos c96 hok
                  refine lv_aload_n hx hb dX5_readLine_104 rfl (lv_at hl 0 rfl) ?_
                  refine va_ldcS hx hb hown (hSt.2.1 _ (List.mem_of_getElem? (i := 4) rfl)) dX5_readLine_105 ?_
                  obtain ⟨r107, hc107, hok⟩ := k_bind hok
                  refine kCi (wc := (wX5_says cy aR qR aH vR_j11 vR vR_tape)) (wc2 := (wX5_says cy aR qR aH vR_j11 vR vR_tape)) (wr := [(aH, oX4 vH qH), (qH 7, oX7 vU qU), (qH 17, rI cy 6 vH_markNights), (qH 18, rI cy 6 vH_markPlaces), (qH 19, rZ cy 6 vH_markFound), (qR 4, rJ cy 7 vR_thingNames), (qR 3, rJ cy 4 vR_ringNames), (qH 9, rI cy 4 vH_places), (qU 1, rI cy 6 vU_things), (qU 2, rI cy 6 vU_cells), (qU 3, rI cy 6 vU_nights), (qU 4, rI cy 6 vU_worths), (qH 16, rI cy 7 vH_firstCells), (qH 14, rI cy 7 vH_kinds), (qH 15, rI cy 7 vH_sizes), (qH 12, rI cy 5 vH_doorOne), (qH 13, rI cy 5 vH_doorTwo), (qH 11, rI cy 36 vH_width), (qH 8, rI cy 4 vH_sorts), (qH 10, rI cy 36 vH_next)]) (ws2 := (wX5_readLine cy aR qR aH qH qU vR_j11 vR vR_tape vH vU vH_markNights vH_markPlaces vH_markFound vR_thingNames vR_ringNames vH_places vU_things vU_cells vU_nights vU_worths vH_firstCells vH_kinds vH_sizes vH_doorOne vH_doorTwo vH_width vH_sorts vH_next)) (kRunVS (As := [.ref (ad.1 20)]) (rest := []) ⟨hx, hb, hml, hown, ht0⟩ (kX5_says l D cy ad _ aR qR aH vR_j11 vR vR_tape 20 r107 hc107 _ rfl) (cwV 1 ht0 (gV wd324 wd325 wd326 wd276 wd327) rfl rfl rfl (by decide +kernel) ⟨Nat.le_of_ble_eq_true rfl, Nat.le_of_ble_eq_true rfl⟩) hK hN hP hD hSt hS hA [0, 1] rfl (by decide) 0 4 rfl rfl rfl hl.1 rfl (Nat.le_of_ble_eq_true rfl) dX5_readLine_107 ⟨Nat.zero_le _, Nat.zero_le _⟩) hP hD hS hA [0, 1] [2, 3, 4, 5, 6, 7, 8, 9, 10, 11, 12, 13, 14, 15, 16, 17, 18, 19, 20, 21] rfl rfl (by decide) (by decide) [20, 21, 0, 1, 2, 3, 4, 5, 6, 7, 8, 9, 10, 11, 12, 13, 14, 15, 16, 17, 18, 19] (by decide) rfl rfl (fun H locs hP hD hS => ?_)
                  refine lv_if_eq (tgt := 118) hx hb dX5_readLine_110 (by decide) (fun c110 => ?_) (fun c110 => ?_)
                  · have hok := k_pos c110 hok
                    refine lv_aload_n hx hb dX5_readLine_118 rfl (lv_at hl 0 rfl) ?_
                    refine va_ldcS hx hb hown (hSt.2.1 _ (List.mem_of_getElem? (i := 5) rfl)) dX5_readLine_119 ?_
                    obtain ⟨r121, hc121, hok⟩ := k_bind hok
                    refine kCi (wc := (wX5_says cy aR qR aH vR_j11 vR vR_tape)) (wc2 := (wX5_says cy aR qR aH vR_j11 vR vR_tape)) (wr := [(aH, oX4 vH qH), (qH 7, oX7 vU qU), (qH 17, rI cy 6 vH_markNights), (qH 18, rI cy 6 vH_markPlaces), (qH 19, rZ cy 6 vH_markFound), (qR 4, rJ cy 7 vR_thingNames), (qR 3, rJ cy 4 vR_ringNames), (qH 9, rI cy 4 vH_places), (qU 1, rI cy 6 vU_things), (qU 2, rI cy 6 vU_cells), (qU 3, rI cy 6 vU_nights), (qU 4, rI cy 6 vU_worths), (qH 16, rI cy 7 vH_firstCells), (qH 14, rI cy 7 vH_kinds), (qH 15, rI cy 7 vH_sizes), (qH 12, rI cy 5 vH_doorOne), (qH 13, rI cy 5 vH_doorTwo), (qH 11, rI cy 36 vH_width), (qH 8, rI cy 4 vH_sorts), (qH 10, rI cy 36 vH_next)]) (ws2 := (wX5_readLine cy aR qR aH qH qU vR_j11 vR vR_tape vH vU vH_markNights vH_markPlaces vH_markFound vR_thingNames vR_ringNames vH_places vU_things vU_cells vU_nights vU_worths vH_firstCells vH_kinds vH_sizes vH_doorOne vH_doorTwo vH_width vH_sorts vH_next)) (kRunVS (As := [.ref (ad.1 21)]) (rest := []) ⟨hx, hb, hml, hown, ht0⟩ (kX5_says l D cy ad _ aR qR aH vR_j11 vR vR_tape 21 r121 hc121 _ rfl) (cwV 1 ht0 (gV wd324 wd325 wd326 wd276 wd327) rfl rfl rfl (by decide +kernel) ⟨Nat.le_of_ble_eq_true rfl, Nat.le_of_ble_eq_true rfl⟩) hK hN hP hD hSt hS hA [0, 1] rfl (by decide) 0 4 rfl rfl rfl hl.1 rfl (Nat.le_of_ble_eq_true rfl) dX5_readLine_121 ⟨Nat.zero_le _, Nat.zero_le _⟩) hP hD hS hA [0, 1] [2, 3, 4, 5, 6, 7, 8, 9, 10, 11, 12, 13, 14, 15, 16, 17, 18, 19, 20, 21] rfl rfl (by decide) (by decide) [20, 21, 0, 1, 2, 3, 4, 5, 6, 7, 8, 9, 10, 11, 12, 13, 14, 15, 16, 17, 18, 19] (by decide) rfl rfl (fun H locs hP hD hS => ?_)
                    refine lv_if_eq (tgt := 134) hx hb dX5_readLine_124 (by decide) (fun c124 => ?_) (fun c124 => ?_)
                    · have hok := k_pos c124 hok
                      refine lv_aload_n hx hb dX5_readLine_134 rfl (lv_at hl 0 rfl) ?_
                      obtain ⟨⟨r135, vR_j11_135, vR_135, vH_135, vH_markNights_135, vH_markPlaces_135, vH_markFound_135⟩, hc135, hok⟩ := k_bind hok
                      try dsimp only at hok
                      refine kCi (wc := (wX5_readMark cy aR qR aH qH vR_j11 vR vR_tape vH vH_markNights vH_markPlaces vH_markFound)) (wc2 := (wX5_readMark cy aR qR aH qH vR_j11_135 vR_135 vR_tape vH_135 vH_markNights_135 vH_markPlaces_135 vH_markFound_135)) (wr := [(qH 7, oX7 vU qU), (qR 4, rJ cy 7 vR_thingNames), (qR 3, rJ cy 4 vR_ringNames), (qH 9, rI cy 4 vH_places), (qU 1, rI cy 6 vU_things), (qU 2, rI cy 6 vU_cells), (qU 3, rI cy 6 vU_nights), (qU 4, rI cy 6 vU_worths), (qH 16, rI cy 7 vH_firstCells), (qH 14, rI cy 7 vH_kinds), (qH 15, rI cy 7 vH_sizes), (qH 12, rI cy 5 vH_doorOne), (qH 13, rI cy 5 vH_doorTwo), (qH 11, rI cy 36 vH_width), (qH 8, rI cy 4 vH_sorts), (qH 10, rI cy 36 vH_next)]) (ws2 := (wX5_readLine cy aR qR aH qH qU vR_j11_135 vR_135 vR_tape vH_135 vU vH_markNights_135 vH_markPlaces_135 vH_markFound_135 vR_thingNames vR_ringNames vH_places vU_things vU_cells vU_nights vU_worths vH_firstCells vH_kinds vH_sizes vH_doorOne vH_doorTwo vH_width vH_sorts vH_next)) (kRunVS (As := []) (rest := []) ⟨hx, hb, hml, hown, ht0⟩ (kX5_readMark l D cy ad _ aR qR aH qH vR_j11 vR vR_tape vH vH_markNights vH_markPlaces vH_markFound r135 vR_j11_135 vR_135 vH_135 vH_markNights_135 vH_markPlaces_135 vH_markFound_135 hc135 _ rfl) (cwV 0 ht0 (gV wd433 wd434 wd435 wd276 wd436) rfl rfl rfl (by decide +kernel) ⟨Nat.le_of_ble_eq_true rfl, Nat.le_of_ble_eq_true rfl⟩) hK hN hP hD hSt hS hA [0, 1, 2, 4, 5, 6] rfl (by decide) 0 4 rfl rfl rfl hl.1 rfl (Nat.le_of_ble_eq_true rfl) dX5_readLine_135 ⟨Nat.zero_le _, Nat.zero_le _⟩) hP hD hS hA [0, 1, 2, 4, 5, 6] [3, 7, 8, 9, 10, 11, 12, 13, 14, 15, 16, 17, 18, 19, 20, 21] rfl rfl (by decide) (by decide) [16, 17, 18, 0, 19, 20, 21, 1, 2, 3, 4, 5, 6, 7, 8, 9, 10, 11, 12, 13, 14, 15] (by decide) rfl rfl (fun H locs hP hD hS => ?_)
                      exact J138 r135 vH_markFound_135 vH_markNights_135 vH_markPlaces_135 vU_cells vU_nights vU_things vU_worths vR_j11_135 vH_135 vR_135 vU H locs ls hP hD hS (lv_sub hl [] rfl) hok
                    · have hok := k_neg c124 hok
                      refine lv_aload_n hx hb dX5_readLine_127 rfl (lv_at hl 0 rfl) ?_
                      obtain ⟨⟨r128, vR_j11_128, vR_128, vU_128, vU_things_128, vU_cells_128, vU_nights_128, vU_worths_128⟩, hc128, hok⟩ := k_bind hok
                      try dsimp only at hok
                      refine kCi (wc := (wX5_readWant cy aR qR aH qH qU vR_j11 vR vR_tape vH vR_thingNames vR_ringNames vH_places vU vU_things vU_cells vU_nights vU_worths)) (wc2 := (wX5_readWant cy aR qR aH qH qU vR_j11_128 vR_128 vR_tape vH vR_thingNames vR_ringNames vH_places vU_128 vU_things_128 vU_cells_128 vU_nights_128 vU_worths_128)) (wr := [(qH 17, rI cy 6 vH_markNights), (qH 18, rI cy 6 vH_markPlaces), (qH 19, rZ cy 6 vH_markFound), (qH 16, rI cy 7 vH_firstCells), (qH 14, rI cy 7 vH_kinds), (qH 15, rI cy 7 vH_sizes), (qH 12, rI cy 5 vH_doorOne), (qH 13, rI cy 5 vH_doorTwo), (qH 11, rI cy 36 vH_width), (qH 8, rI cy 4 vH_sorts), (qH 10, rI cy 36 vH_next)]) (ws2 := (wX5_readLine cy aR qR aH qH qU vR_j11_128 vR_128 vR_tape vH vU_128 vH_markNights vH_markPlaces vH_markFound vR_thingNames vR_ringNames vH_places vU_things_128 vU_cells_128 vU_nights_128 vU_worths_128 vH_firstCells vH_kinds vH_sizes vH_doorOne vH_doorTwo vH_width vH_sorts vH_next)) (kRunVS (As := []) (rest := []) ⟨hx, hb, hml, hown, ht0⟩ (kX5_readWant l D cy ad _ aR qR aH qH qU vR_j11 vR vR_tape vH vR_thingNames vR_ringNames vH_places vU vU_things vU_cells vU_nights vU_worths r128 vR_j11_128 vR_128 vU_128 vU_things_128 vU_cells_128 vU_nights_128 vU_worths_128 hc128 _ rfl) (cwV 0 ht0 (gV wd437 wd438 wd439 wd276 wd440) rfl rfl rfl (by decide +kernel) ⟨Nat.le_of_ble_eq_true rfl, Nat.le_of_ble_eq_true rfl⟩) hK hN hP hD hSt hS hA [0, 1, 2, 7, 8, 9, 3, 10, 11, 12, 13] rfl (by decide) 0 4 rfl rfl rfl hl.1 rfl (Nat.le_of_ble_eq_true rfl) dX5_readLine_128 ⟨Nat.zero_le _, Nat.zero_le _⟩) hP hD hS hA [0, 1, 2, 7, 8, 9, 3, 10, 11, 12, 13] [4, 5, 6, 14, 15, 16, 17, 18, 19, 20, 21] rfl rfl (by decide) (by decide) [11, 12, 13, 17, 0, 1, 2, 14, 15, 16, 18, 19, 20, 21, 3, 4, 5, 6, 7, 8, 9, 10] (by decide) rfl rfl (fun H locs hP hD hS => ?_)
                      refine lv_goto (tgt := 138) hx hb dX5_readLine_131 (by decide) ?_
                      exact J138 r128 vH_markFound vH_markNights vH_markPlaces vU_cells_128 vU_nights_128 vU_things_128 vU_worths_128 vR_j11_128 vH vR_128 vU_128 H locs ls hP hD hS (lv_sub hl [] rfl) hok
                  · have hok := k_neg c110 hok
                    refine lv_aload_n hx hb dX5_readLine_113 rfl (lv_at hl 0 rfl) ?_
                    obtain ⟨⟨r114, vR_j11_114, vR_114, vH_114, vR_thingNames_114, vH_firstCells_114, vH_kinds_114, vH_sizes_114⟩, hc114, hok⟩ := k_bind hok
                    try dsimp only at hok
                    refine kCi (wc := (wX5_readThing cy aR qR aH qH vR_j11 vR vR_tape vH vR_ringNames vR_thingNames vH_places vH_firstCells vH_kinds vH_sizes)) (wc2 := (wX5_readThing cy aR qR aH qH vR_j11_114 vR_114 vR_tape vH_114 vR_ringNames vR_thingNames_114 vH_places vH_firstCells_114 vH_kinds_114 vH_sizes_114)) (wr := [(qH 7, oX7 vU qU), (qH 17, rI cy 6 vH_markNights), (qH 18, rI cy 6 vH_markPlaces), (qH 19, rZ cy 6 vH_markFound), (qU 1, rI cy 6 vU_things), (qU 2, rI cy 6 vU_cells), (qU 3, rI cy 6 vU_nights), (qU 4, rI cy 6 vU_worths), (qH 12, rI cy 5 vH_doorOne), (qH 13, rI cy 5 vH_doorTwo), (qH 11, rI cy 36 vH_width), (qH 8, rI cy 4 vH_sorts), (qH 10, rI cy 36 vH_next)]) (ws2 := (wX5_readLine cy aR qR aH qH qU vR_j11_114 vR_114 vR_tape vH_114 vU vH_markNights vH_markPlaces vH_markFound vR_thingNames_114 vR_ringNames vH_places vU_things vU_cells vU_nights vU_worths vH_firstCells_114 vH_kinds_114 vH_sizes_114 vH_doorOne vH_doorTwo vH_width vH_sorts vH_next)) (kRunVS (As := []) (rest := []) ⟨hx, hb, hml, hown, ht0⟩ (kX5_readThing l D cy ad _ aR qR aH qH vR_j11 vR vR_tape vH vR_ringNames vR_thingNames vH_places vH_firstCells vH_kinds vH_sizes r114 vR_j11_114 vR_114 vH_114 vR_thingNames_114 vH_firstCells_114 vH_kinds_114 vH_sizes_114 hc114 _ rfl) (cwV 0 ht0 (gV wd441 wd442 wd443 wd276 wd444) rfl rfl rfl (by decide +kernel) ⟨Nat.le_of_ble_eq_true rfl, Nat.le_of_ble_eq_true rfl⟩) hK hN hP hD hSt hS hA [0, 1, 2, 8, 7, 9, 14, 15, 16] rfl (by decide) 0 4 rfl rfl rfl hl.1 rfl (Nat.le_of_ble_eq_true rfl) dX5_readLine_114 ⟨Nat.zero_le _, Nat.zero_le _⟩) hP hD hS hA [0, 1, 2, 8, 7, 9, 14, 15, 16] [3, 4, 5, 6, 10, 11, 12, 13, 17, 18, 19, 20, 21] rfl rfl (by decide) (by decide) [13, 14, 15, 0, 1, 2, 3, 17, 16, 18, 4, 5, 6, 7, 19, 20, 21, 8, 9, 10, 11, 12] (by decide) rfl rfl (fun H locs hP hD hS => ?_)
                    obtain ⟨g117, hok⟩ := gd_some hok
                    cases hok
                    subst hQe; exact W.zret hx hb hr (isB_nar g117) (fun t ht hW => ⟨⟨_, (), rfl, rfl, by rw [ht]; exact hP, va_K.moved hW.alike hK, hD⟩, hS.F ht⟩) hS.2.2 dX5_readLine_117
                · have hok := k_neg c96 hok
                  refine lv_aload_n hx hb dX5_readLine_99 rfl (lv_at hl 0 rfl) ?_
                  obtain ⟨⟨r100, vR_j11_100, vR_100, vH_100, vH_doorOne_100, vH_doorTwo_100⟩, hc100, hok⟩ := k_bind hok
                  try dsimp only at hok
                  refine kCi (wc := (wX5_readDoor cy aR qR aH qH vR_j11 vR vR_tape vH vR_ringNames vH_places vH_doorOne vH_doorTwo)) (wc2 := (wX5_readDoor cy aR qR aH qH vR_j11_100 vR_100 vR_tape vH_100 vR_ringNames vH_places vH_doorOne_100 vH_doorTwo_100)) (wr := [(qH 7, oX7 vU qU), (qH 17, rI cy 6 vH_markNights), (qH 18, rI cy 6 vH_markPlaces), (qH 19, rZ cy 6 vH_markFound), (qR 4, rJ cy 7 vR_thingNames), (qU 1, rI cy 6 vU_things), (qU 2, rI cy 6 vU_cells), (qU 3, rI cy 6 vU_nights), (qU 4, rI cy 6 vU_worths), (qH 16, rI cy 7 vH_firstCells), (qH 14, rI cy 7 vH_kinds), (qH 15, rI cy 7 vH_sizes), (qH 11, rI cy 36 vH_width), (qH 8, rI cy 4 vH_sorts), (qH 10, rI cy 36 vH_next)]) (ws2 := (wX5_readLine cy aR qR aH qH qU vR_j11_100 vR_100 vR_tape vH_100 vU vH_markNights vH_markPlaces vH_markFound vR_thingNames vR_ringNames vH_places vU_things vU_cells vU_nights vU_worths vH_firstCells vH_kinds vH_sizes vH_doorOne_100 vH_doorTwo_100 vH_width vH_sorts vH_next)) (kRunVS (As := []) (rest := []) ⟨hx, hb, hml, hown, ht0⟩ (kX5_readDoor l D cy ad _ aR qR aH qH vR_j11 vR vR_tape vH vR_ringNames vH_places vH_doorOne vH_doorTwo r100 vR_j11_100 vR_100 vH_100 vH_doorOne_100 vH_doorTwo_100 hc100 _ rfl) (cwV 0 ht0 (gV wd445 wd446 wd447 wd276 wd448) rfl rfl rfl (by decide +kernel) ⟨Nat.le_of_ble_eq_true rfl, Nat.le_of_ble_eq_true rfl⟩) hK hN hP hD hSt hS hA [0, 1, 2, 8, 9, 17, 18] rfl (by decide) 0 4 rfl rfl rfl hl.1 rfl (Nat.le_of_ble_eq_true rfl) dX5_readLine_100 ⟨Nat.zero_le _, Nat.zero_le _⟩) hP hD hS hA [0, 1, 2, 8, 9, 17, 18] [3, 4, 5, 6, 7, 10, 11, 12, 13, 14, 15, 16, 19, 20, 21] rfl rfl (by decide) (by decide) [15, 16, 17, 0, 1, 2, 3, 4, 18, 19, 5, 6, 7, 8, 9, 10, 11, 20, 21, 12, 13, 14] (by decide) rfl rfl (fun H locs hP hD hS => ?_)
                  obtain ⟨g103, hok⟩ := gd_some hok
                  cases hok
                  subst hQe; exact W.zret hx hb hr (isB_nar g103) (fun t ht hW => ⟨⟨_, (), rfl, rfl, by rw [ht]; exact hP, va_K.moved hW.alike hK, hD⟩, hS.F ht⟩) hS.2.2 dX5_readLine_103
              · have hok := k_neg c82 hok
                refine lv_aload_n hx hb dX5_readLine_85 rfl (lv_at hl 0 rfl) ?_
                obtain ⟨⟨r86, vR_j11_86, vR_86, vH_86, vH_width_86⟩, hc86, hok⟩ := k_bind hok
                try dsimp only at hok
                refine kCi (wc := (wX5_readNarrow cy aR qR aH qH vR_j11 vR vR_tape vH vR_ringNames vH_places vH_width)) (wc2 := (wX5_readNarrow cy aR qR aH qH vR_j11_86 vR_86 vR_tape vH_86 vR_ringNames vH_places vH_width_86)) (wr := [(qH 7, oX7 vU qU), (qH 17, rI cy 6 vH_markNights), (qH 18, rI cy 6 vH_markPlaces), (qH 19, rZ cy 6 vH_markFound), (qR 4, rJ cy 7 vR_thingNames), (qU 1, rI cy 6 vU_things), (qU 2, rI cy 6 vU_cells), (qU 3, rI cy 6 vU_nights), (qU 4, rI cy 6 vU_worths), (qH 16, rI cy 7 vH_firstCells), (qH 14, rI cy 7 vH_kinds), (qH 15, rI cy 7 vH_sizes), (qH 12, rI cy 5 vH_doorOne), (qH 13, rI cy 5 vH_doorTwo), (qH 8, rI cy 4 vH_sorts), (qH 10, rI cy 36 vH_next)]) (ws2 := (wX5_readLine cy aR qR aH qH qU vR_j11_86 vR_86 vR_tape vH_86 vU vH_markNights vH_markPlaces vH_markFound vR_thingNames vR_ringNames vH_places vU_things vU_cells vU_nights vU_worths vH_firstCells vH_kinds vH_sizes vH_doorOne vH_doorTwo vH_width_86 vH_sorts vH_next)) (kRunVS (As := []) (rest := []) ⟨hx, hb, hml, hown, ht0⟩ (kX5_readNarrow l D cy ad _ aR qR aH qH vR_j11 vR vR_tape vH vR_ringNames vH_places vH_width r86 vR_j11_86 vR_86 vH_86 vH_width_86 hc86 _ rfl) (cwV 0 ht0 (gV wd449 wd450 wd451 wd276 wd452) rfl rfl rfl (by decide +kernel) ⟨Nat.le_of_ble_eq_true rfl, Nat.le_of_ble_eq_true rfl⟩) hK hN hP hD hSt hS hA [0, 1, 2, 8, 9, 19] rfl (by decide) 0 4 rfl rfl rfl hl.1 rfl (Nat.le_of_ble_eq_true rfl) dX5_readLine_86 ⟨Nat.zero_le _, Nat.zero_le _⟩) hP hD hS hA [0, 1, 2, 8, 9, 19] [3, 4, 5, 6, 7, 10, 11, 12, 13, 14, 15, 16, 17, 18, 20, 21] rfl rfl (by decide) (by decide) [16, 17, 18, 0, 1, 2, 3, 4, 19, 20, 5, 6, 7, 8, 9, 10, 11, 12, 13, 21, 14, 15] (by decide) rfl rfl (fun H locs hP hD hS => ?_)
                obtain ⟨g89, hok⟩ := gd_some hok
                cases hok
                subst hQe; exact W.zret hx hb hr (isB_nar g89) (fun t ht hW => ⟨⟨_, (), rfl, rfl, by rw [ht]; exact hP, va_K.moved hW.alike hK, hD⟩, hS.F ht⟩) hS.2.2 dX5_readLine_89
            · have hok := k_neg c68 hok
              refine lv_aload_n hx hb dX5_readLine_71 rfl (lv_at hl 0 rfl) ?_
              obtain ⟨⟨r72, vR_j11_72, vR_72, vH_72, vR_ringNames_72, vH_sorts_72, vH_places_72, vH_next_72⟩, hc72, hok⟩ := k_bind hok
              try dsimp only at hok
              refine kCi (wc := (wX5_readRing cy aR qR aH qH vR_j11 vR vR_tape vH vR_ringNames vR_thingNames vH_sorts vH_places vH_next)) (wc2 := (wX5_readRing cy aR qR aH qH vR_j11_72 vR_72 vR_tape vH_72 vR_ringNames_72 vR_thingNames vH_sorts_72 vH_places_72 vH_next_72)) (wr := [(qH 7, oX7 vU qU), (qH 17, rI cy 6 vH_markNights), (qH 18, rI cy 6 vH_markPlaces), (qH 19, rZ cy 6 vH_markFound), (qU 1, rI cy 6 vU_things), (qU 2, rI cy 6 vU_cells), (qU 3, rI cy 6 vU_nights), (qU 4, rI cy 6 vU_worths), (qH 16, rI cy 7 vH_firstCells), (qH 14, rI cy 7 vH_kinds), (qH 15, rI cy 7 vH_sizes), (qH 12, rI cy 5 vH_doorOne), (qH 13, rI cy 5 vH_doorTwo), (qH 11, rI cy 36 vH_width)]) (ws2 := (wX5_readLine cy aR qR aH qH qU vR_j11_72 vR_72 vR_tape vH_72 vU vH_markNights vH_markPlaces vH_markFound vR_thingNames vR_ringNames_72 vH_places_72 vU_things vU_cells vU_nights vU_worths vH_firstCells vH_kinds vH_sizes vH_doorOne vH_doorTwo vH_width vH_sorts_72 vH_next_72)) (kRunVS (As := []) (rest := []) ⟨hx, hb, hml, hown, ht0⟩ (kX5_readRing l D cy ad _ aR qR aH qH vR_j11 vR vR_tape vH vR_ringNames vR_thingNames vH_sorts vH_places vH_next r72 vR_j11_72 vR_72 vH_72 vR_ringNames_72 vH_sorts_72 vH_places_72 vH_next_72 hc72 _ rfl) (cwV 0 ht0 (gV wd453 wd454 wd455 wd276 wd456) rfl rfl rfl (by decide +kernel) ⟨Nat.le_of_ble_eq_true rfl, Nat.le_of_ble_eq_true rfl⟩) hK hN hP hD hSt hS hA [0, 1, 2, 8, 7, 20, 9, 21] rfl (by decide) 0 4 rfl rfl rfl hl.1 rfl (Nat.le_of_ble_eq_true rfl) dX5_readLine_72 ⟨Nat.zero_le _, Nat.zero_le _⟩) hP hD hS hA [0, 1, 2, 8, 7, 20, 9, 21] [3, 4, 5, 6, 10, 11, 12, 13, 14, 15, 16, 17, 18, 19] rfl rfl (by decide) (by decide) [14, 15, 16, 0, 1, 2, 3, 18, 17, 20, 4, 5, 6, 7, 8, 9, 10, 11, 12, 13, 19, 21] (by decide) rfl rfl (fun H locs hP hD hS => ?_)
              obtain ⟨g75, hok⟩ := gd_some hok
              cases hok
              subst hQe; exact W.zret hx hb hr (isB_nar g75) (fun t ht hW => ⟨⟨_, (), rfl, rfl, by rw [ht]; exact hP, va_K.moved hW.alike hK, hD⟩, hS.F ht⟩) hS.2.2 dX5_readLine_75
          · have hok := k_neg c53 hok
            refine lv_aload_n hx hb dX5_readLine_56 rfl (lv_at hl 0 rfl) ?_
            refine lv_iconst (v := 5) hx hb dX5_readLine_57 (by decide) ?_
            obtain ⟨⟨r58, vR_58⟩, hc58, hok⟩ := k_bind hok
            try dsimp only at hok
            refine kCi (wc := (wX5_fails cy aR qR aH vR_j11 vR)) (wc2 := (wX5_fails cy aR qR aH vR_j11 vR_58)) (wr := [(qR 0, rB cy 900 vR_tape), (aH, oX4 vH qH), (qH 7, oX7 vU qU), (qH 17, rI cy 6 vH_markNights), (qH 18, rI cy 6 vH_markPlaces), (qH 19, rZ cy 6 vH_markFound), (qR 4, rJ cy 7 vR_thingNames), (qR 3, rJ cy 4 vR_ringNames), (qH 9, rI cy 4 vH_places), (qU 1, rI cy 6 vU_things), (qU 2, rI cy 6 vU_cells), (qU 3, rI cy 6 vU_nights), (qU 4, rI cy 6 vU_worths), (qH 16, rI cy 7 vH_firstCells), (qH 14, rI cy 7 vH_kinds), (qH 15, rI cy 7 vH_sizes), (qH 12, rI cy 5 vH_doorOne), (qH 13, rI cy 5 vH_doorTwo), (qH 11, rI cy 36 vH_width), (qH 8, rI cy 4 vH_sorts), (qH 10, rI cy 36 vH_next)]) (ws2 := (wX5_readLine cy aR qR aH qH qU vR_j11 vR_58 vR_tape vH vU vH_markNights vH_markPlaces vH_markFound vR_thingNames vR_ringNames vH_places vU_things vU_cells vU_nights vU_worths vH_firstCells vH_kinds vH_sizes vH_doorOne vH_doorTwo vH_width vH_sorts vH_next)) (kRunV (As := [.int 5]) (rest := []) ⟨hx, hb, hml, hown, ht0⟩ (kX5_fails l D cy _ aR qR aH vR_j11 vR (5 : Int32) r58 vR_58 hc58 _ rfl) (cwV 1 ht0 (gV wd332 wd333 wd334 wd276 wd335) rfl rfl rfl (by decide +kernel) ⟨Nat.le_of_ble_eq_true rfl, Nat.le_of_ble_eq_true rfl⟩) hK hN hP hD [0] rfl (by decide) 0 4 rfl rfl rfl hl.1 rfl (Nat.le_of_ble_eq_true rfl) dX5_readLine_58 ⟨Nat.zero_le _, Nat.zero_le _⟩) hP hD hS hA [0] [1, 2, 3, 4, 5, 6, 7, 8, 9, 10, 11, 12, 13, 14, 15, 16, 17, 18, 19, 20, 21] rfl rfl (by decide) (by decide) [21, 0, 1, 2, 3, 4, 5, 6, 7, 8, 9, 10, 11, 12, 13, 14, 15, 16, 17, 18, 19, 20] (by decide) rfl rfl (fun H locs hP hD hS => ?_)
            obtain ⟨g61, hok⟩ := gd_some hok
            cases hok
            subst hQe; exact W.zret hx hb hr (isB_nar g61) (fun t ht hW => ⟨⟨_, (), rfl, rfl, by rw [ht]; exact hP, va_K.moved hW.alike hK, hD⟩, hS.F ht⟩) hS.2.2 dX5_readLine_61
        · have hok := k_pos c39 hok
          refine lv_aload_n hx hb dX5_readLine_42 rfl (lv_at hl 0 rfl) ?_
          refine lv_bipush (v := 6) hx hb dX5_readLine_43 (by decide) ?_
          obtain ⟨⟨r45, vR_45⟩, hc45, hok⟩ := k_bind hok
          try dsimp only at hok
          refine kCi (wc := (wX5_fails cy aR qR aH vR_j11 vR)) (wc2 := (wX5_fails cy aR qR aH vR_j11 vR_45)) (wr := [(qR 0, rB cy 900 vR_tape), (aH, oX4 vH qH), (qH 7, oX7 vU qU), (qH 17, rI cy 6 vH_markNights), (qH 18, rI cy 6 vH_markPlaces), (qH 19, rZ cy 6 vH_markFound), (qR 4, rJ cy 7 vR_thingNames), (qR 3, rJ cy 4 vR_ringNames), (qH 9, rI cy 4 vH_places), (qU 1, rI cy 6 vU_things), (qU 2, rI cy 6 vU_cells), (qU 3, rI cy 6 vU_nights), (qU 4, rI cy 6 vU_worths), (qH 16, rI cy 7 vH_firstCells), (qH 14, rI cy 7 vH_kinds), (qH 15, rI cy 7 vH_sizes), (qH 12, rI cy 5 vH_doorOne), (qH 13, rI cy 5 vH_doorTwo), (qH 11, rI cy 36 vH_width), (qH 8, rI cy 4 vH_sorts), (qH 10, rI cy 36 vH_next)]) (ws2 := (wX5_readLine cy aR qR aH qH qU vR_j11 vR_45 vR_tape vH vU vH_markNights vH_markPlaces vH_markFound vR_thingNames vR_ringNames vH_places vU_things vU_cells vU_nights vU_worths vH_firstCells vH_kinds vH_sizes vH_doorOne vH_doorTwo vH_width vH_sorts vH_next)) (kRunV (As := [.int 6]) (rest := []) ⟨hx, hb, hml, hown, ht0⟩ (kX5_fails l D cy _ aR qR aH vR_j11 vR (6 : Int32) r45 vR_45 hc45 _ rfl) (cwV 1 ht0 (gV wd332 wd333 wd334 wd276 wd335) rfl rfl rfl (by decide +kernel) ⟨Nat.le_of_ble_eq_true rfl, Nat.le_of_ble_eq_true rfl⟩) hK hN hP hD [0] rfl (by decide) 0 4 rfl rfl rfl hl.1 rfl (Nat.le_of_ble_eq_true rfl) dX5_readLine_45 ⟨Nat.zero_le _, Nat.zero_le _⟩) hP hD hS hA [0] [1, 2, 3, 4, 5, 6, 7, 8, 9, 10, 11, 12, 13, 14, 15, 16, 17, 18, 19, 20, 21] rfl rfl (by decide) (by decide) [21, 0, 1, 2, 3, 4, 5, 6, 7, 8, 9, 10, 11, 12, 13, 14, 15, 16, 17, 18, 19, 20] (by decide) rfl rfl (fun H locs hP hD hS => ?_)
          obtain ⟨g48, hok⟩ := gd_some hok
          cases hok
          subst hQe; exact W.zret hx hb hr (isB_nar g48) (fun t ht hW => ⟨⟨_, (), rfl, rfl, by rw [ht]; exact hP, va_K.moved hW.alike hK, hD⟩, hS.F ht⟩) hS.2.2 dX5_readLine_48
      · have hok := k_neg c26 hok
        exact J29  H locs ls hP hD hS (lv_sub hl [0] rfl) hok
  · have hok := k_neg c6 hok
    refine lv_aload_n hx hb dX5_readLine_9 rfl (lv_at hl 0 rfl) ?_
    obtain ⟨⟨r10, vR_j11_10, vR_10, vH_10⟩, hc10, hok⟩ := k_bind hok
    try dsimp only at hok
    refine kCi (wc := (wX5_readHouse cy aR qR aH qH vR_j11 vR vR_tape vH)) (wc2 := (wX5_readHouse cy aR qR aH qH vR_j11_10 vR_10 vR_tape vH_10)) (wr := [(qH 7, oX7 vU qU), (qH 17, rI cy 6 vH_markNights), (qH 18, rI cy 6 vH_markPlaces), (qH 19, rZ cy 6 vH_markFound), (qR 4, rJ cy 7 vR_thingNames), (qR 3, rJ cy 4 vR_ringNames), (qH 9, rI cy 4 vH_places), (qU 1, rI cy 6 vU_things), (qU 2, rI cy 6 vU_cells), (qU 3, rI cy 6 vU_nights), (qU 4, rI cy 6 vU_worths), (qH 16, rI cy 7 vH_firstCells), (qH 14, rI cy 7 vH_kinds), (qH 15, rI cy 7 vH_sizes), (qH 12, rI cy 5 vH_doorOne), (qH 13, rI cy 5 vH_doorTwo), (qH 11, rI cy 36 vH_width), (qH 8, rI cy 4 vH_sorts), (qH 10, rI cy 36 vH_next)]) (ws2 := (wX5_readLine cy aR qR aH qH qU vR_j11_10 vR_10 vR_tape vH_10 vU vH_markNights vH_markPlaces vH_markFound vR_thingNames vR_ringNames vH_places vU_things vU_cells vU_nights vU_worths vH_firstCells vH_kinds vH_sizes vH_doorOne vH_doorTwo vH_width vH_sorts vH_next)) (kRunVS (As := []) (rest := []) ⟨hx, hb, hml, hown, ht0⟩ (kX5_readHouse l D cy ad _ aR qR aH qH vR_j11 vR vR_tape vH r10 vR_j11_10 vR_10 vH_10 hc10 _ rfl) (cwV 0 ht0 (gV wd457 wd458 wd459 wd276 wd460) rfl rfl rfl (by decide +kernel) ⟨Nat.le_of_ble_eq_true rfl, Nat.le_of_ble_eq_true rfl⟩) hK hN hP hD hSt hS hA [0, 1, 2] rfl (by decide) 0 4 rfl rfl rfl hl.1 rfl (Nat.le_of_ble_eq_true rfl) dX5_readLine_10 ⟨Nat.zero_le _, Nat.zero_le _⟩) hP hD hS hA [0, 1, 2] [3, 4, 5, 6, 7, 8, 9, 10, 11, 12, 13, 14, 15, 16, 17, 18, 19, 20, 21] rfl rfl (by decide) (by decide) [19, 20, 21, 0, 1, 2, 3, 4, 5, 6, 7, 8, 9, 10, 11, 12, 13, 14, 15, 16, 17, 18] (by decide) rfl rfl (fun H locs hP hD hS => ?_)
    obtain ⟨g13, hok⟩ := gd_some hok
    cases hok
    subst hQe; exact W.zret hx hb hr (isB_nar g13) (fun t ht hW => ⟨⟨_, (), rfl, rfl, by rw [ht]; exact hP, va_K.moved hW.alike hK, hD⟩, hS.F ht⟩) hS.2.2 dX5_readLine_13
def wsX5_read : List Cond := .code yX5_read cX5_read 4 (some .boolean) :: W0
abbrev wX5_read (cy : Nat → ClassId) (aR : Nat) (qR : Nat → Nat) (aH : Nat) (qH : Nat → Nat) (qU : Nat → Nat) (vR_j11 : Int64) (vR : Nat → Int32) (vH : Nat → Int32) (vU : Nat → Int32) (vH_next : Nat → Int32) (vH_width : Nat → Int32) (vR_tape : Nat → Int32) (vH_markNights : Nat → Int32) (vH_markPlaces : Nat → Int32) (vH_markFound : Nat → Int32) (vR_thingNames : Nat → Int64) (vR_ringNames : Nat → Int64) (vH_places : Nat → Int32) (vU_things : Nat → Int32) (vU_cells : Nat → Int32) (vU_nights : Nat → Int32) (vU_worths : Nat → Int32) (vH_firstCells : Nat → Int32) (vH_kinds : Nat → Int32) (vH_sizes : Nat → Int32) (vH_doorOne : Nat → Int32) (vH_doorTwo : Nat → Int32) (vH_sorts : Nat → Int32) : va_W := [(aR, oX5 vR qR vR_j11 aH), (aH, oX4 vH qH), (qH 7, oX7 vU qU), (qH 10, rI cy 36 vH_next), (qH 11, rI cy 36 vH_width), (qR 0, rB cy 900 vR_tape), (qH 17, rI cy 6 vH_markNights), (qH 18, rI cy 6 vH_markPlaces), (qH 19, rZ cy 6 vH_markFound), (qR 4, rJ cy 7 vR_thingNames), (qR 3, rJ cy 4 vR_ringNames), (qH 9, rI cy 4 vH_places), (qU 1, rI cy 6 vU_things), (qU 2, rI cy 6 vU_cells), (qU 3, rI cy 6 vU_nights), (qU 4, rI cy 6 vU_worths), (qH 16, rI cy 7 vH_firstCells), (qH 14, rI cy 7 vH_kinds), (qH 15, rI cy 7 vH_sizes), (qH 12, rI cy 5 vH_doorOne), (qH 13, rI cy 5 vH_doorTwo), (qH 8, rI cy 4 vH_sorts)]
set_option maxHeartbeats 4000000 in
set_option maxRecDepth 100000 in
theorem kX5_read (l : Launch) (D : va_G) (cy : Nat → ClassId) (ad : (Nat → Nat) × (Nat → Nat)) (sz : Nat) (aR : Nat) (qR : Nat → Nat) (aH : Nat) (qH : Nat → Nat) (qU : Nat → Nat) (vR_j11 : Int64) (vR : Nat → Int32) (vH : Nat → Int32) (vU : Nat → Int32) (vH_next : Nat → Int32) (vH_width : Nat → Int32) (vR_tape : Nat → Int32) (vH_markNights : Nat → Int32) (vH_markPlaces : Nat → Int32) (vH_markFound : Nat → Int32) (vR_thingNames : Nat → Int64) (vR_ringNames : Nat → Int64) (vH_places : Nat → Int32) (vU_things : Nat → Int32) (vU_cells : Nat → Int32) (vU_nights : Nat → Int32) (vU_worths : Nat → Int32) (vH_firstCells : Nat → Int32) (vH_kinds : Nat → Int32) (vH_sizes : Nat → Int32) (vH_doorOne : Nat → Int32) (vH_doorTwo : Nat → Int32) (vH_sorts : Nat → Int32) (x1 : Int32) (zr : Int32) (z_vR_j11 : Int64) (z_vR : Nat → Int32) (z_vH : Nat → Int32) (z_vU : Nat → Int32) (z_vH_next : Nat → Int32) (z_vH_width : Nat → Int32) (z_vH_markNights : Nat → Int32) (z_vH_markPlaces : Nat → Int32) (z_vH_markFound : Nat → Int32) (z_vR_thingNames : Nat → Int64) (z_vR_ringNames : Nat → Int64) (z_vH_places : Nat → Int32) (z_vU_things : Nat → Int32) (z_vU_cells : Nat → Int32) (z_vU_nights : Nat → Int32) (z_vU_worths : Nat → Int32) (z_vH_firstCells : Nat → Int32) (z_vH_kinds : Nat → Int32) (z_vH_sizes : Nat → Int32) (z_vH_doorOne : Nat → Int32) (z_vH_doorTwo : Nat → Int32) (z_vH_sorts : Nat → Int32) (hok : fX5_read vR_j11 vR vH vU vH_next vH_width vR_tape vH_markNights vH_markPlaces vH_markFound vR_thingNames vR_ringNames vH_places vU_things vU_cells vU_nights vU_worths vH_firstCells vH_kinds vH_sizes vH_doorOne vH_doorTwo vH_sorts x1 = some (zr, z_vR_j11, z_vR, z_vH, z_vU, z_vH_next, z_vH_width, z_vH_markNights, z_vH_markPlaces, z_vH_markFound, z_vR_thingNames, z_vR_ringNames, z_vH_places, z_vU_things, z_vU_cells, z_vU_nights, z_vU_worths, z_vH_firstCells, z_vH_kinds, z_vH_sizes, z_vH_doorOne, z_vH_doorTwo, z_vH_sorts)) (A : Nat → Prop) (hAe : va_A (wX5_read cy aR qR aH qH qU vR_j11 vR vH vU vH_next vH_width vR_tape vH_markNights vH_markPlaces vH_markFound vR_thingNames vR_ringNames vH_places vU_things vU_cells vU_nights vU_worths vH_firstCells vH_kinds vH_sizes vH_doorOne vH_doorTwo vH_sorts) sz = A) : Met l yX5_read wsX5_read ({ frames := 9, cells := 0, slots := 0, locals := 199 } : Room) (kPreS D cy ad [.ref aR, .int x1] (wX5_read cy aR qR aH qH qU vR_j11 vR vH vU vH_next vH_width vR_tape vH_markNights vH_markPlaces vH_markFound vR_thingNames vR_ringNames vH_places vU_things vU_cells vU_nights vU_worths vH_firstCells vH_kinds vH_sizes vH_doorOne vH_doorTwo vH_sorts) sz A) (kQi D cy zr A (wX5_read cy aR qR aH qH qU z_vR_j11 z_vR z_vH z_vU z_vH_next z_vH_width vR_tape z_vH_markNights z_vH_markPlaces z_vH_markFound z_vR_thingNames z_vR_ringNames z_vH_places z_vU_things z_vU_cells z_vU_nights z_vU_worths z_vH_firstCells z_vH_kinds z_vH_sizes z_vH_doorOne z_vH_doorTwo z_vH_sorts)) 0 0 A := by
  refine Met.ofW (cc := cX5_read) (maxL := 4) (ret := (some .boolean)) (by decide) rfl ?_
  intro p e s m args below meth c s₁ B hml hv
  obtain ⟨rfl, ⟨hsz, hP, hK, hD0, hN⟩, hSt⟩ := hv
  have hx := B.exec
  have hb := B.bytes
  have hr := B.returns
  have ht0 : ∀ w ∈ W0, w.before _ s = true := fun w h => atoms_spec (ws := wsX5_read) B.pre w (List.mem_cons_of_mem _ h)
  have hown : s.vm.findClass RX5 = some m.cls := findClass_of_methodNamed B.named
  have hlocks := B.notSynchronized
  subst hsz
  have hD : va_D A (wX5_read cy aR qR aH qH qU vR_j11 vR vH vU vH_next vH_width vR_tape vH_markNights vH_markPlaces vH_markFound vR_thingNames vR_ringNames vH_places vU_things vU_cells vU_nights vU_worths vH_firstCells vH_kinds vH_sizes vH_doorOne vH_doorTwo vH_sorts) := by rw [← hAe]; exact hD0.self
  have hA : ∀ q : Nat, s.heap.size ≤ q → A q := fun q h => by rw [← hAe]; exact Or.inr h
  have hS : va_S A s.heap s.heap [] := va_S.rf
  have hl := lv_entry ([.ref aR, .int x1]) (n := 4) (Nat.le_of_ble_eq_true rfl)
  rw [lg_entry_eq]
  generalize (lg_sl ([.ref aR, .int x1]) ++ List.replicate (4 - (lg_sl ([.ref aR, .int x1])).length) Slot.unset).toArray = ls at hl ⊢
  have hl : lv_has ls 4 [(0, .ref aR), (1, .int x1)] := hl
  generalize hQe : MQ below (kQi D cy zr A (wX5_read cy aR qR aH qH qU z_vR_j11 z_vR z_vH z_vU z_vH_next z_vH_width vR_tape z_vH_markNights z_vH_markPlaces z_vH_markFound z_vR_thingNames z_vR_ringNames z_vH_places z_vU_things z_vU_cells z_vU_nights z_vU_worths z_vH_firstCells z_vH_kinds z_vH_sizes z_vH_doorOne z_vH_doorTwo z_vH_sorts)) ([.ref aR, .int x1] : List Value).toArray s 0 0 A = Q
  have J120 : ∀ (t0_120 : Int32) (vH_doorOne_120 : Nat → Int32) (vH_doorTwo_120 : Nat → Int32) (vH_firstCells_120 : Nat → Int32) (vH_kinds_120 : Nat → Int32) (vH_markFound_120 : Nat → Int32) (vH_markNights_120 : Nat → Int32) (vH_markPlaces_120 : Nat → Int32) (vH_next_120 : Nat → Int32) (vH_places_120 : Nat → Int32) (vH_sizes_120 : Nat → Int32) (vH_sorts_120 : Nat → Int32) (vH_width_120 : Nat → Int32) (vR_ringNames_120 : Nat → Int64) (vR_thingNames_120 : Nat → Int64) (vU_cells_120 : Nat → Int32) (vU_nights_120 : Nat → Int32) (vU_things_120 : Nat → Int32) (vU_worths_120 : Nat → Int32) (vR_11_120 : Int64) (vH_120 : Nat → Int32) (vR_120 : Nat → Int32) (vU_120 : Nat → Int32), ∀ (H : Heap) (locs : List Loc) (ls : Array Slot), va_P D vwCl (wX5_read cy aR qR aH qH qU vR_11_120 vR_120 vH_120 vU_120 vH_next_120 vH_width_120 vR_tape vH_markNights_120 vH_markPlaces_120 vH_markFound_120 vR_thingNames_120 vR_ringNames_120 vH_places_120 vU_things_120 vU_cells_120 vU_nights_120 vU_worths_120 vH_firstCells_120 vH_kinds_120 vH_sizes_120 vH_doorOne_120 vH_doorTwo_120 vH_sorts_120) H → va_D A (wX5_read cy aR qR aH qH qU vR_11_120 vR_120 vH_120 vU_120 vH_next_120 vH_width_120 vR_tape vH_markNights_120 vH_markPlaces_120 vH_markFound_120 vR_thingNames_120 vR_ringNames_120 vH_places_120 vU_things_120 vU_cells_120 vU_nights_120 vU_worths_120 vH_firstCells_120 vH_kinds_120 vH_sizes_120 vH_doorOne_120 vH_doorTwo_120 vH_sorts_120) → va_S A s.heap H locs → lv_has ls 4 [] → fX5_read_J120 t0_120 vH_doorOne_120 vH_doorTwo_120 vH_firstCells_120 vH_kinds_120 vH_markFound_120 vH_markNights_120 vH_markPlaces_120 vH_next_120 vH_places_120 vH_sizes_120 vH_sorts_120 vH_width_120 vR_ringNames_120 vR_thingNames_120 vU_cells_120 vU_nights_120 vU_things_120 vU_worths_120 vR_11_120 vH_120 vR_120 vU_120 = some (zr, z_vR_j11, z_vR, z_vH, z_vU, z_vH_next, z_vH_width, z_vH_markNights, z_vH_markPlaces, z_vH_markFound, z_vR_thingNames, z_vR_ringNames, z_vH_places, z_vU_things, z_vU_cells, z_vU_nights, z_vU_worths, z_vH_firstCells, z_vH_kinds, z_vH_sizes, z_vH_doorOne, z_vH_doorTwo, z_vH_sorts) → W p l e ({ frames := 9, cells := 0, slots := 0, locals := 199 } : Room) s m ([.ref aR, .int x1] : List Value).toArray below meth c H locs 0 0 Q (F0 m 120 ls [.int t0_120]) := by
    intro t0_120 vH_doorOne_120 vH_doorTwo_120 vH_firstCells_120 vH_kinds_120 vH_markFound_120 vH_markNights_120 vH_markPlaces_120 vH_next_120 vH_places_120 vH_sizes_120 vH_sorts_120 vH_width_120 vR_ringNames_120 vR_thingNames_120 vU_cells_120 vU_nights_120 vU_things_120 vU_worths_120 vR_11_120 vH_120 vR_120 vU_120 H locs ls hP hD hS hl hok
    unfold fX5_read_J120 at hok
    obtain ⟨g120, hok⟩ := gd_some hok
    cases hok
    subst hQe; exact W.zret hx hb hr (isB_nar g120) (fun t ht hW => ⟨⟨_, (), rfl, rfl, by rw [ht]; exact hP, va_K.moved hW.alike hK, hD⟩, hS.F ht⟩) hS.2.2 dX5_read_120
  have J115 : ∀ (vH_doorOne_115 : Nat → Int32) (vH_doorTwo_115 : Nat → Int32) (vH_firstCells_115 : Nat → Int32) (vH_kinds_115 : Nat → Int32) (vH_markFound_115 : Nat → Int32) (vH_markNights_115 : Nat → Int32) (vH_markPlaces_115 : Nat → Int32) (vH_next_115 : Nat → Int32) (vH_places_115 : Nat → Int32) (vH_sizes_115 : Nat → Int32) (vH_sorts_115 : Nat → Int32) (vH_width_115 : Nat → Int32) (vR_ringNames_115 : Nat → Int64) (vR_thingNames_115 : Nat → Int64) (vU_cells_115 : Nat → Int32) (vU_nights_115 : Nat → Int32) (vU_things_115 : Nat → Int32) (vU_worths_115 : Nat → Int32) (vR_11_115 : Int64) (vH_115 : Nat → Int32) (vR_115 : Nat → Int32) (vU_115 : Nat → Int32), ∀ (H : Heap) (locs : List Loc) (ls : Array Slot), va_P D vwCl (wX5_read cy aR qR aH qH qU vR_11_115 vR_115 vH_115 vU_115 vH_next_115 vH_width_115 vR_tape vH_markNights_115 vH_markPlaces_115 vH_markFound_115 vR_thingNames_115 vR_ringNames_115 vH_places_115 vU_things_115 vU_cells_115 vU_nights_115 vU_worths_115 vH_firstCells_115 vH_kinds_115 vH_sizes_115 vH_doorOne_115 vH_doorTwo_115 vH_sorts_115) H → va_D A (wX5_read cy aR qR aH qH qU vR_11_115 vR_115 vH_115 vU_115 vH_next_115 vH_width_115 vR_tape vH_markNights_115 vH_markPlaces_115 vH_markFound_115 vR_thingNames_115 vR_ringNames_115 vH_places_115 vU_things_115 vU_cells_115 vU_nights_115 vU_worths_115 vH_firstCells_115 vH_kinds_115 vH_sizes_115 vH_doorOne_115 vH_doorTwo_115 vH_sorts_115) → va_S A s.heap H locs → lv_has ls 4 [] → fX5_read_J115 vH_doorOne_115 vH_doorTwo_115 vH_firstCells_115 vH_kinds_115 vH_markFound_115 vH_markNights_115 vH_markPlaces_115 vH_next_115 vH_places_115 vH_sizes_115 vH_sorts_115 vH_width_115 vR_ringNames_115 vR_thingNames_115 vU_cells_115 vU_nights_115 vU_things_115 vU_worths_115 vR_11_115 vH_115 vR_115 vU_115 = some (zr, z_vR_j11, z_vR, z_vH, z_vU, z_vH_next, z_vH_width, z_vH_markNights, z_vH_markPlaces, z_vH_markFound, z_vR_thingNames, z_vR_ringNames, z_vH_places, z_vU_things, z_vU_cells, z_vU_nights, z_vU_worths, z_vH_firstCells, z_vH_kinds, z_vH_sizes, z_vH_doorOne, z_vH_doorTwo, z_vH_sorts) → W p l e ({ frames := 9, cells := 0, slots := 0, locals := 199 } : Room) s m ([.ref aR, .int x1] : List Value).toArray below meth c H locs 0 0 Q (F0 m 115 ls []) := by
    intro vH_doorOne_115 vH_doorTwo_115 vH_firstCells_115 vH_kinds_115 vH_markFound_115 vH_markNights_115 vH_markPlaces_115 vH_next_115 vH_places_115 vH_sizes_115 vH_sorts_115 vH_width_115 vR_ringNames_115 vR_thingNames_115 vU_cells_115 vU_nights_115 vU_things_115 vU_worths_115 vR_11_115 vH_115 vR_115 vU_115 H locs ls hP hD hS hl hok
    unfold fX5_read_J115 at hok
    refine lv_iconst (v := 1) hx hb dX5_read_115 (by decide) ?_
    refine lv_goto (tgt := 120) hx hb dX5_read_116 (by decide) ?_
    exact J120 (1 : Int32) vH_doorOne_115 vH_doorTwo_115 vH_firstCells_115 vH_kinds_115 vH_markFound_115 vH_markNights_115 vH_markPlaces_115 vH_next_115 vH_places_115 vH_sizes_115 vH_sorts_115 vH_width_115 vR_ringNames_115 vR_thingNames_115 vU_cells_115 vU_nights_115 vU_things_115 vU_worths_115 vR_11_115 vH_115 vR_115 vU_115 H locs ls hP hD hS (lv_sub hl [] rfl) hok
  have J77 : ∀ (y2_77 : Int32) (vH_doorOne_77 : Nat → Int32) (vH_doorTwo_77 : Nat → Int32) (vH_firstCells_77 : Nat → Int32) (vH_kinds_77 : Nat → Int32) (vH_markFound_77 : Nat → Int32) (vH_markNights_77 : Nat → Int32) (vH_markPlaces_77 : Nat → Int32) (vH_next_77 : Nat → Int32) (vH_places_77 : Nat → Int32) (vH_sizes_77 : Nat → Int32) (vH_sorts_77 : Nat → Int32) (vH_width_77 : Nat → Int32) (vR_ringNames_77 : Nat → Int64) (vR_thingNames_77 : Nat → Int64) (vU_cells_77 : Nat → Int32) (vU_nights_77 : Nat → Int32) (vU_things_77 : Nat → Int32) (vU_worths_77 : Nat → Int32) (vR_11_77 : Int64) (vH_77 : Nat → Int32) (vR_77 : Nat → Int32) (vU_77 : Nat → Int32), ∀ (H : Heap) (locs : List Loc) (ls : Array Slot), va_P D vwCl (wX5_read cy aR qR aH qH qU vR_11_77 vR_77 vH_77 vU_77 vH_next_77 vH_width_77 vR_tape vH_markNights_77 vH_markPlaces_77 vH_markFound_77 vR_thingNames_77 vR_ringNames_77 vH_places_77 vU_things_77 vU_cells_77 vU_nights_77 vU_worths_77 vH_firstCells_77 vH_kinds_77 vH_sizes_77 vH_doorOne_77 vH_doorTwo_77 vH_sorts_77) H → va_D A (wX5_read cy aR qR aH qH qU vR_11_77 vR_77 vH_77 vU_77 vH_next_77 vH_width_77 vR_tape vH_markNights_77 vH_markPlaces_77 vH_markFound_77 vR_thingNames_77 vR_ringNames_77 vH_places_77 vU_things_77 vU_cells_77 vU_nights_77 vU_worths_77 vH_firstCells_77 vH_kinds_77 vH_sizes_77 vH_doorOne_77 vH_doorTwo_77 vH_sorts_77) → va_S A s.heap H locs → lv_has ls 4 [(0, .ref aR), (2, .int y2_77)] → fX5_read_J77 y2_77 vH_doorOne_77 vH_doorTwo_77 vH_firstCells_77 vH_kinds_77 vH_markFound_77 vH_markNights_77 vH_markPlaces_77 vH_next_77 vH_places_77 vH_sizes_77 vH_sorts_77 vH_width_77 vR_ringNames_77 vR_thingNames_77 vU_cells_77 vU_nights_77 vU_things_77 vU_worths_77 vR_11_77 vH_77 vR_77 vU_77 = some (zr, z_vR_j11, z_vR, z_vH, z_vU, z_vH_next, z_vH_width, z_vH_markNights, z_vH_markPlaces, z_vH_markFound, z_vR_thingNames, z_vR_ringNames, z_vH_places, z_vU_things, z_vU_cells, z_vU_nights, z_vU_worths, z_vH_firstCells, z_vH_kinds, z_vH_sizes, z_vH_doorOne, z_vH_doorTwo, z_vH_sorts) → W p l e ({ frames := 9, cells := 0, slots := 0, locals := 199 } : Room) s m ([.ref aR, .int x1] : List Value).toArray below meth c H locs 0 0 Q (F0 m 77 ls []) := by
    intro y2_77 vH_doorOne_77 vH_doorTwo_77 vH_firstCells_77 vH_kinds_77 vH_markFound_77 vH_markNights_77 vH_markPlaces_77 vH_next_77 vH_places_77 vH_sizes_77 vH_sorts_77 vH_width_77 vR_ringNames_77 vR_thingNames_77 vU_cells_77 vU_nights_77 vU_things_77 vU_worths_77 vR_11_77 vH_77 vR_77 vU_77 H locs ls hP hD hS hl hok
    unfold fX5_read_J77 at hok
    refine lv_iload_n hx hb dX5_read_77 rfl (lv_at hl 1 rfl) ?_
    refine lv_if_ne (tgt := 83) hx hb dX5_read_78 (by decide) (fun c78 => ?_) (fun c78 => ?_)
    · have hok := k_neg c78 hok
      refine lv_aload_n hx hb dX5_read_83 rfl (lv_at hl 0 rfl) ?_
      refine va_get (D := D) (ci := 4) (v := .int (vR_77 7)) (C := RX5) (T := TX5) (N := 13) hx hb ht0 niX5 hown hK hP 0 rfl rfl 7 (by decide) (ht0 _ wd269) (fun _ h9 => h9) rfl dX5_read_84 ?_
      refine lv_if_eq (tgt := 96) hx hb dX5_read_87 (by decide) (fun c87 => ?_) (fun c87 => ?_)
      · have hok := k_pos c87 hok
        refine lv_aload_n hx hb dX5_read_96 rfl (lv_at hl 0 rfl) ?_
        refine va_get (D := D) (ci := 4) (v := .ref aH) (C := RX5) (T := TX5) (N := 13) hx hb ht0 niX5 hown hK hP 0 rfl rfl 2 (by decide) (ht0 _ wd266) (fun _ h9 => h9) rfl dX5_read_97 ?_
        obtain ⟨r100, hc100, hok⟩ := k_bind hok
        refine kCi (wc := (wX4_stands cy aH qH vH_77)) (wc2 := (wX4_stands cy aH qH vH_77)) (wr := [(aR, oX5 vR_77 qR vR_11_77 aH), (qH 7, oX7 vU_77 qU), (qH 10, rI cy 36 vH_next_77), (qH 11, rI cy 36 vH_width_77), (qR 0, rB cy 900 vR_tape), (qH 17, rI cy 6 vH_markNights_77), (qH 18, rI cy 6 vH_markPlaces_77), (qH 19, rZ cy 6 vH_markFound_77), (qR 4, rJ cy 7 vR_thingNames_77), (qR 3, rJ cy 4 vR_ringNames_77), (qH 9, rI cy 4 vH_places_77), (qU 1, rI cy 6 vU_things_77), (qU 2, rI cy 6 vU_cells_77), (qU 3, rI cy 6 vU_nights_77), (qU 4, rI cy 6 vU_worths_77), (qH 16, rI cy 7 vH_firstCells_77), (qH 14, rI cy 7 vH_kinds_77), (qH 15, rI cy 7 vH_sizes_77), (qH 12, rI cy 5 vH_doorOne_77), (qH 13, rI cy 5 vH_doorTwo_77), (qH 8, rI cy 4 vH_sorts_77)]) (ws2 := (wX5_read cy aR qR aH qH qU vR_11_77 vR_77 vH_77 vU_77 vH_next_77 vH_width_77 vR_tape vH_markNights_77 vH_markPlaces_77 vH_markFound_77 vR_thingNames_77 vR_ringNames_77 vH_places_77 vU_things_77 vU_cells_77 vU_nights_77 vU_worths_77 vH_firstCells_77 vH_kinds_77 vH_sizes_77 vH_doorOne_77 vH_doorTwo_77 vH_sorts_77)) (kRunV (As := []) (rest := []) ⟨hx, hb, hml, hown, ht0⟩ (kX4_stands l D cy _ aH qH vH_77 r100 hc100 _ rfl) (cwV 0 ht0 (gV wd461 wd462 wd463 wd9 wd464) rfl rfl rfl (by decide +kernel) ⟨Nat.le_of_ble_eq_true rfl, Nat.le_of_ble_eq_true rfl⟩) hK hN hP hD [1] rfl (by decide) 1 3 rfl rfl rfl hl.1 rfl (Nat.le_of_ble_eq_true rfl) dX5_read_100 ⟨Nat.zero_le _, Nat.zero_le _⟩) hP hD hS hA [1] [0, 2, 3, 4, 5, 6, 7, 8, 9, 10, 11, 12, 13, 14, 15, 16, 17, 18, 19, 20, 21] rfl rfl (by decide) (by decide) [0, 21, 1, 2, 3, 4, 5, 6, 7, 8, 9, 10, 11, 12, 13, 14, 15, 16, 17, 18, 19, 20] (by decide) rfl rfl (fun H locs hP hD hS => ?_)
        refine lv_if_ne (tgt := 115) hx hb dX5_read_103 (by decide) (fun c103 => ?_) (fun c103 => ?_)
        · have hok := k_neg c103 hok
          exact J115 vH_doorOne_77 vH_doorTwo_77 vH_firstCells_77 vH_kinds_77 vH_markFound_77 vH_markNights_77 vH_markPlaces_77 vH_next_77 vH_places_77 vH_sizes_77 vH_sorts_77 vH_width_77 vR_ringNames_77 vR_thingNames_77 vU_cells_77 vU_nights_77 vU_things_77 vU_worths_77 vR_11_77 vH_77 vR_77 vU_77 H locs ls hP hD hS (lv_sub hl [] rfl) hok
        · have hok := k_pos c103 hok
          refine lv_aload_n hx hb dX5_read_106 rfl (lv_at hl 0 rfl) ?_
          refine lv_bipush (v := 6) hx hb dX5_read_107 (by decide) ?_
          obtain ⟨⟨r109, vR_109⟩, hc109, hok⟩ := k_bind hok
          try dsimp only at hok
          refine kCi (wc := (wX5_fails cy aR qR aH vR_11_77 vR_77)) (wc2 := (wX5_fails cy aR qR aH vR_11_77 vR_109)) (wr := [(aH, oX4 vH_77 qH), (qH 7, oX7 vU_77 qU), (qH 10, rI cy 36 vH_next_77), (qH 11, rI cy 36 vH_width_77), (qR 0, rB cy 900 vR_tape), (qH 17, rI cy 6 vH_markNights_77), (qH 18, rI cy 6 vH_markPlaces_77), (qH 19, rZ cy 6 vH_markFound_77), (qR 4, rJ cy 7 vR_thingNames_77), (qR 3, rJ cy 4 vR_ringNames_77), (qH 9, rI cy 4 vH_places_77), (qU 1, rI cy 6 vU_things_77), (qU 2, rI cy 6 vU_cells_77), (qU 3, rI cy 6 vU_nights_77), (qU 4, rI cy 6 vU_worths_77), (qH 16, rI cy 7 vH_firstCells_77), (qH 14, rI cy 7 vH_kinds_77), (qH 15, rI cy 7 vH_sizes_77), (qH 12, rI cy 5 vH_doorOne_77), (qH 13, rI cy 5 vH_doorTwo_77), (qH 8, rI cy 4 vH_sorts_77)]) (ws2 := (wX5_read cy aR qR aH qH qU vR_11_77 vR_109 vH_77 vU_77 vH_next_77 vH_width_77 vR_tape vH_markNights_77 vH_markPlaces_77 vH_markFound_77 vR_thingNames_77 vR_ringNames_77 vH_places_77 vU_things_77 vU_cells_77 vU_nights_77 vU_worths_77 vH_firstCells_77 vH_kinds_77 vH_sizes_77 vH_doorOne_77 vH_doorTwo_77 vH_sorts_77)) (kRunV (As := [.int 6]) (rest := []) ⟨hx, hb, hml, hown, ht0⟩ (kX5_fails l D cy _ aR qR aH vR_11_77 vR_77 (6 : Int32) r109 vR_109 hc109 _ rfl) (cwV 1 ht0 (gV wd332 wd333 wd334 wd276 wd335) rfl rfl rfl (by decide +kernel) ⟨Nat.le_of_ble_eq_true rfl, Nat.le_of_ble_eq_true rfl⟩) hK hN hP hD [0] rfl (by decide) 0 4 rfl rfl rfl hl.1 rfl (Nat.le_of_ble_eq_true rfl) dX5_read_109 ⟨Nat.zero_le _, Nat.zero_le _⟩) hP hD hS hA [0] [1, 2, 3, 4, 5, 6, 7, 8, 9, 10, 11, 12, 13, 14, 15, 16, 17, 18, 19, 20, 21] rfl rfl (by decide) (by decide) [21, 0, 1, 2, 3, 4, 5, 6, 7, 8, 9, 10, 11, 12, 13, 14, 15, 16, 17, 18, 19, 20] (by decide) rfl rfl (fun H locs hP hD hS => ?_)
          refine lv_if_eq (tgt := 119) hx hb dX5_read_112 (by decide) (fun c112 => ?_) (fun c112 => ?_)
          · have hok := k_pos c112 hok
            refine lv_iconst (v := 0) hx hb dX5_read_119 (by decide) ?_
            exact J120 (0 : Int32) vH_doorOne_77 vH_doorTwo_77 vH_firstCells_77 vH_kinds_77 vH_markFound_77 vH_markNights_77 vH_markPlaces_77 vH_next_77 vH_places_77 vH_sizes_77 vH_sorts_77 vH_width_77 vR_ringNames_77 vR_thingNames_77 vU_cells_77 vU_nights_77 vU_things_77 vU_worths_77 vR_11_77 vH_77 vR_109 vU_77 H locs ls hP hD hS (lv_sub hl [] rfl) hok
          · have hok := k_neg c112 hok
            exact J115 vH_doorOne_77 vH_doorTwo_77 vH_firstCells_77 vH_kinds_77 vH_markFound_77 vH_markNights_77 vH_markPlaces_77 vH_next_77 vH_places_77 vH_sizes_77 vH_sorts_77 vH_width_77 vR_ringNames_77 vR_thingNames_77 vU_cells_77 vU_nights_77 vU_things_77 vU_worths_77 vR_11_77 vH_77 vR_109 vU_77 H locs ls hP hD hS (lv_sub hl [] rfl) hok
      · have hok := k_neg c87 hok
        refine lv_aload_n hx hb dX5_read_90 rfl (lv_at hl 0 rfl) ?_
        refine lv_iconst (v := 1) hx hb dX5_read_91 (by decide) ?_
        obtain ⟨⟨r92, vR_92⟩, hc92, hok⟩ := k_bind hok
        try dsimp only at hok
        refine kCi (wc := (wX5_fails cy aR qR aH vR_11_77 vR_77)) (wc2 := (wX5_fails cy aR qR aH vR_11_77 vR_92)) (wr := [(aH, oX4 vH_77 qH), (qH 7, oX7 vU_77 qU), (qH 10, rI cy 36 vH_next_77), (qH 11, rI cy 36 vH_width_77), (qR 0, rB cy 900 vR_tape), (qH 17, rI cy 6 vH_markNights_77), (qH 18, rI cy 6 vH_markPlaces_77), (qH 19, rZ cy 6 vH_markFound_77), (qR 4, rJ cy 7 vR_thingNames_77), (qR 3, rJ cy 4 vR_ringNames_77), (qH 9, rI cy 4 vH_places_77), (qU 1, rI cy 6 vU_things_77), (qU 2, rI cy 6 vU_cells_77), (qU 3, rI cy 6 vU_nights_77), (qU 4, rI cy 6 vU_worths_77), (qH 16, rI cy 7 vH_firstCells_77), (qH 14, rI cy 7 vH_kinds_77), (qH 15, rI cy 7 vH_sizes_77), (qH 12, rI cy 5 vH_doorOne_77), (qH 13, rI cy 5 vH_doorTwo_77), (qH 8, rI cy 4 vH_sorts_77)]) (ws2 := (wX5_read cy aR qR aH qH qU vR_11_77 vR_92 vH_77 vU_77 vH_next_77 vH_width_77 vR_tape vH_markNights_77 vH_markPlaces_77 vH_markFound_77 vR_thingNames_77 vR_ringNames_77 vH_places_77 vU_things_77 vU_cells_77 vU_nights_77 vU_worths_77 vH_firstCells_77 vH_kinds_77 vH_sizes_77 vH_doorOne_77 vH_doorTwo_77 vH_sorts_77)) (kRunV (As := [.int 1]) (rest := []) ⟨hx, hb, hml, hown, ht0⟩ (kX5_fails l D cy _ aR qR aH vR_11_77 vR_77 (1 : Int32) r92 vR_92 hc92 _ rfl) (cwV 1 ht0 (gV wd332 wd333 wd334 wd276 wd335) rfl rfl rfl (by decide +kernel) ⟨Nat.le_of_ble_eq_true rfl, Nat.le_of_ble_eq_true rfl⟩) hK hN hP hD [0] rfl (by decide) 0 4 rfl rfl rfl hl.1 rfl (Nat.le_of_ble_eq_true rfl) dX5_read_92 ⟨Nat.zero_le _, Nat.zero_le _⟩) hP hD hS hA [0] [1, 2, 3, 4, 5, 6, 7, 8, 9, 10, 11, 12, 13, 14, 15, 16, 17, 18, 19, 20, 21] rfl rfl (by decide) (by decide) [21, 0, 1, 2, 3, 4, 5, 6, 7, 8, 9, 10, 11, 12, 13, 14, 15, 16, 17, 18, 19, 20] (by decide) rfl rfl (fun H locs hP hD hS => ?_)
        obtain ⟨g95, hok⟩ := gd_some hok
        cases hok
        subst hQe; exact W.zret hx hb hr (isB_nar g95) (fun t ht hW => ⟨⟨_, (), rfl, rfl, by rw [ht]; exact hP, va_K.moved hW.alike hK, hD⟩, hS.F ht⟩) hS.2.2 dX5_read_95
    · have hok := k_pos c78 hok
      refine lv_iconst (v := 0) hx hb dX5_read_81 (by decide) ?_
      cases hok
      subst hQe; exact W.zret hx hb hr rfl (fun t ht hW => ⟨⟨_, (), rfl, rfl, by rw [ht]; exact hP, va_K.moved hW.alike hK, hD⟩, hS.F ht⟩) hS.2.2 dX5_read_82
  have L43 : ∀ (fuel : Nat) (y2_43 : Int32) (y3_43 : Int32) (vH_doorOne_43 : Nat → Int32) (vH_doorTwo_43 : Nat → Int32) (vH_firstCells_43 : Nat → Int32) (vH_kinds_43 : Nat → Int32) (vH_markFound_43 : Nat → Int32) (vH_markNights_43 : Nat → Int32) (vH_markPlaces_43 : Nat → Int32) (vH_next_43 : Nat → Int32) (vH_places_43 : Nat → Int32) (vH_sizes_43 : Nat → Int32) (vH_sorts_43 : Nat → Int32) (vH_width_43 : Nat → Int32) (vR_ringNames_43 : Nat → Int64) (vR_thingNames_43 : Nat → Int64) (vU_cells_43 : Nat → Int32) (vU_nights_43 : Nat → Int32) (vU_things_43 : Nat → Int32) (vU_worths_43 : Nat → Int32) (vR_11_43 : Int64) (vH_43 : Nat → Int32) (vR_43 : Nat → Int32) (vU_43 : Nat → Int32), ∀ (H : Heap) (locs : List Loc) (ls : Array Slot), va_P D vwCl (wX5_read cy aR qR aH qH qU vR_11_43 vR_43 vH_43 vU_43 vH_next_43 vH_width_43 vR_tape vH_markNights_43 vH_markPlaces_43 vH_markFound_43 vR_thingNames_43 vR_ringNames_43 vH_places_43 vU_things_43 vU_cells_43 vU_nights_43 vU_worths_43 vH_firstCells_43 vH_kinds_43 vH_sizes_43 vH_doorOne_43 vH_doorTwo_43 vH_sorts_43) H → va_D A (wX5_read cy aR qR aH qH qU vR_11_43 vR_43 vH_43 vU_43 vH_next_43 vH_width_43 vR_tape vH_markNights_43 vH_markPlaces_43 vH_markFound_43 vR_thingNames_43 vR_ringNames_43 vH_places_43 vU_things_43 vU_cells_43 vU_nights_43 vU_worths_43 vH_firstCells_43 vH_kinds_43 vH_sizes_43 vH_doorOne_43 vH_doorTwo_43 vH_sorts_43) → va_S A s.heap H locs → lv_has ls 4 [(0, .ref aR), (2, .int y2_43), (3, .int y3_43)] → lp (fX5_read_B43 vR_tape) fuel (y2_43, y3_43, vH_doorOne_43, vH_doorTwo_43, vH_firstCells_43, vH_kinds_43, vH_markFound_43, vH_markNights_43, vH_markPlaces_43, vH_next_43, vH_places_43, vH_sizes_43, vH_sorts_43, vH_width_43, vR_ringNames_43, vR_thingNames_43, vU_cells_43, vU_nights_43, vU_things_43, vU_worths_43, vR_11_43, vH_43, vR_43, vU_43) = some (zr, z_vR_j11, z_vR, z_vH, z_vU, z_vH_next, z_vH_width, z_vH_markNights, z_vH_markPlaces, z_vH_markFound, z_vR_thingNames, z_vR_ringNames, z_vH_places, z_vU_things, z_vU_cells, z_vU_nights, z_vU_worths, z_vH_firstCells, z_vH_kinds, z_vH_sizes, z_vH_doorOne, z_vH_doorTwo, z_vH_sorts) → W p l e ({ frames := 9, cells := 0, slots := 0, locals := 199 } : Room) s m ([.ref aR, .int x1] : List Value).toArray below meth c H locs 0 0 Q (F0 m 43 ls []) := by
    intro fuel
    induction fuel with
    | zero => intro y2_43 y3_43 vH_doorOne_43 vH_doorTwo_43 vH_firstCells_43 vH_kinds_43 vH_markFound_43 vH_markNights_43 vH_markPlaces_43 vH_next_43 vH_places_43 vH_sizes_43 vH_sorts_43 vH_width_43 vR_ringNames_43 vR_thingNames_43 vU_cells_43 vU_nights_43 vU_things_43 vU_worths_43 vR_11_43 vH_43 vR_43 vU_43 H locs ls hP hD hS hl hok; exact (lp_0 hok).elim
    | succ fuel ih43 =>
      intro y2_43 y3_43 vH_doorOne_43 vH_doorTwo_43 vH_firstCells_43 vH_kinds_43 vH_markFound_43 vH_markNights_43 vH_markPlaces_43 vH_next_43 vH_places_43 vH_sizes_43 vH_sorts_43 vH_width_43 vR_ringNames_43 vR_thingNames_43 vU_cells_43 vU_nights_43 vU_things_43 vU_worths_43 vR_11_43 vH_43 vR_43 vU_43 H locs ls hP hD hS hl hok
      obtain ⟨y43, hok, hL43, hR43⟩ := lp_step hok
      unfold fX5_read_B43 at hok
      try dsimp only at hok
      refine lv_iload_n hx hb dX5_read_43 rfl (lv_at hl 2 rfl) ?_
      refine lv_sipush (v := 900) hx hb dX5_read_44 (by decide) ?_
      refine lv_icmp_ge (tgt := 77) hx hb dX5_read_47 (by decide) (fun c47 => ?_) (fun c47 => ?_)
      · have hok := k_pos c47 hok
        obtain ⟨e43, hok, he43⟩ := ex_some hok
        have hok := hok.trans (congrArg some (hL43 _ he43))
        exact J77 y2_43 vH_doorOne_43 vH_doorTwo_43 vH_firstCells_43 vH_kinds_43 vH_markFound_43 vH_markNights_43 vH_markPlaces_43 vH_next_43 vH_places_43 vH_sizes_43 vH_sorts_43 vH_width_43 vR_ringNames_43 vR_thingNames_43 vU_cells_43 vU_nights_43 vU_things_43 vU_worths_43 vR_11_43 vH_43 vR_43 vU_43 H locs ls hP hD hS (lv_sub hl [0, 1] rfl) hok
      · have hok := k_neg c47 hok
        refine lv_iload_n hx hb dX5_read_50 rfl (lv_at hl 1 rfl) ?_
        refine lv_if_eq (tgt := 77) hx hb dX5_read_51 (by decide) (fun c51 => ?_) (fun c51 => ?_)
        · have hok := k_pos c51 hok
          obtain ⟨e43, hok, he43⟩ := ex_some hok
          have hok := hok.trans (congrArg some (hL43 _ he43))
          exact J77 y2_43 vH_doorOne_43 vH_doorTwo_43 vH_firstCells_43 vH_kinds_43 vH_markFound_43 vH_markNights_43 vH_markPlaces_43 vH_next_43 vH_places_43 vH_sizes_43 vH_sorts_43 vH_width_43 vR_ringNames_43 vR_thingNames_43 vU_cells_43 vU_nights_43 vU_things_43 vU_worths_43 vR_11_43 vH_43 vR_43 vU_43 H locs ls hP hD hS (lv_sub hl [0, 1] rfl) hok
        · have hok := k_neg c51 hok
          refine lv_aload_n hx hb dX5_read_54 rfl (lv_at hl 0 rfl) ?_
          refine va_get (D := D) (ci := 4) (v := .int (vR_43 7)) (C := RX5) (T := TX5) (N := 13) hx hb ht0 niX5 hown hK hP 0 rfl rfl 7 (by decide) (ht0 _ wd269) (fun _ h9 => h9) rfl dX5_read_55 ?_
          refine lv_iconst (v := 3) hx hb dX5_read_58 (by decide) ?_
          refine lv_icmp_ne (tgt := 77) hx hb dX5_read_59 (by decide) (fun c59 => ?_) (fun c59 => ?_)
          · have hok := k_neg c59 hok
            obtain ⟨e43, hok, he43⟩ := ex_some hok
            have hok := hok.trans (congrArg some (hL43 _ he43))
            exact J77 y2_43 vH_doorOne_43 vH_doorTwo_43 vH_firstCells_43 vH_kinds_43 vH_markFound_43 vH_markNights_43 vH_markPlaces_43 vH_next_43 vH_places_43 vH_sizes_43 vH_sorts_43 vH_width_43 vR_ringNames_43 vR_thingNames_43 vU_cells_43 vU_nights_43 vU_things_43 vU_worths_43 vR_11_43 vH_43 vR_43 vU_43 H locs ls hP hD hS (lv_sub hl [0, 1] rfl) hok
          · have hok := k_pos c59 hok
            refine lv_aload_n hx hb dX5_read_62 rfl (lv_at hl 0 rfl) ?_
            obtain ⟨⟨vR_j11_63, vR_63⟩, hc63, hok⟩ := k_bind hok
            try dsimp only at hok
            refine kCv (wc := (wX5_step cy aR qR aH vR_11_43 vR_43 vR_tape)) (wc2 := (wX5_step cy aR qR aH vR_j11_63 vR_63 vR_tape)) (wr := [(aH, oX4 vH_43 qH), (qH 7, oX7 vU_43 qU), (qH 10, rI cy 36 vH_next_43), (qH 11, rI cy 36 vH_width_43), (qH 17, rI cy 6 vH_markNights_43), (qH 18, rI cy 6 vH_markPlaces_43), (qH 19, rZ cy 6 vH_markFound_43), (qR 4, rJ cy 7 vR_thingNames_43), (qR 3, rJ cy 4 vR_ringNames_43), (qH 9, rI cy 4 vH_places_43), (qU 1, rI cy 6 vU_things_43), (qU 2, rI cy 6 vU_cells_43), (qU 3, rI cy 6 vU_nights_43), (qU 4, rI cy 6 vU_worths_43), (qH 16, rI cy 7 vH_firstCells_43), (qH 14, rI cy 7 vH_kinds_43), (qH 15, rI cy 7 vH_sizes_43), (qH 12, rI cy 5 vH_doorOne_43), (qH 13, rI cy 5 vH_doorTwo_43), (qH 8, rI cy 4 vH_sorts_43)]) (ws2 := (wX5_read cy aR qR aH qH qU vR_j11_63 vR_63 vH_43 vU_43 vH_next_43 vH_width_43 vR_tape vH_markNights_43 vH_markPlaces_43 vH_markFound_43 vR_thingNames_43 vR_ringNames_43 vH_places_43 vU_things_43 vU_cells_43 vU_nights_43 vU_worths_43 vH_firstCells_43 vH_kinds_43 vH_sizes_43 vH_doorOne_43 vH_doorTwo_43 vH_sorts_43)) (kRunV (As := []) (rest := []) ⟨hx, hb, hml, hown, ht0⟩ (kX5_step l D cy _ aR qR aH vR_11_43 vR_43 vR_tape vR_j11_63 vR_63 hc63 _ rfl) (cwV 0 ht0 (gV wd328 wd329 wd330 wd276 wd331) rfl rfl rfl (by decide +kernel) ⟨Nat.le_of_ble_eq_true rfl, Nat.le_of_ble_eq_true rfl⟩) hK hN hP hD [0, 5] rfl (by decide) 0 4 rfl rfl rfl hl.1 rfl (Nat.le_of_ble_eq_true rfl) dX5_read_63 ⟨Nat.zero_le _, Nat.zero_le _⟩) hP hD hS hA [0, 5] [1, 2, 3, 4, 6, 7, 8, 9, 10, 11, 12, 13, 14, 15, 16, 17, 18, 19, 20, 21] rfl rfl (by decide) (by decide) [20, 0, 1, 2, 3, 21, 4, 5, 6, 7, 8, 9, 10, 11, 12, 13, 14, 15, 16, 17, 18, 19] (by decide) rfl rfl (fun H locs hP hD hS => ?_)
            refine lv_aload_n hx hb dX5_read_66 rfl (lv_at hl 0 rfl) ?_
            obtain ⟨⟨r67, vR_j11_67, vR_67, vH_67, vU_67, vH_markNights_67, vH_markPlaces_67, vH_markFound_67, vR_thingNames_67, vR_ringNames_67, vH_places_67, vU_things_67, vU_cells_67, vU_nights_67, vU_worths_67, vH_firstCells_67, vH_kinds_67, vH_sizes_67, vH_doorOne_67, vH_doorTwo_67, vH_width_67, vH_sorts_67, vH_next_67⟩, hc67, hok⟩ := k_bind hok
            try dsimp only at hok
            refine kCi (wc := (wX5_readLine cy aR qR aH qH qU vR_j11_63 vR_63 vR_tape vH_43 vU_43 vH_markNights_43 vH_markPlaces_43 vH_markFound_43 vR_thingNames_43 vR_ringNames_43 vH_places_43 vU_things_43 vU_cells_43 vU_nights_43 vU_worths_43 vH_firstCells_43 vH_kinds_43 vH_sizes_43 vH_doorOne_43 vH_doorTwo_43 vH_width_43 vH_sorts_43 vH_next_43)) (wc2 := (wX5_readLine cy aR qR aH qH qU vR_j11_67 vR_67 vR_tape vH_67 vU_67 vH_markNights_67 vH_markPlaces_67 vH_markFound_67 vR_thingNames_67 vR_ringNames_67 vH_places_67 vU_things_67 vU_cells_67 vU_nights_67 vU_worths_67 vH_firstCells_67 vH_kinds_67 vH_sizes_67 vH_doorOne_67 vH_doorTwo_67 vH_width_67 vH_sorts_67 vH_next_67)) (wr := []) (ws2 := (wX5_read cy aR qR aH qH qU vR_j11_67 vR_67 vH_67 vU_67 vH_next_67 vH_width_67 vR_tape vH_markNights_67 vH_markPlaces_67 vH_markFound_67 vR_thingNames_67 vR_ringNames_67 vH_places_67 vU_things_67 vU_cells_67 vU_nights_67 vU_worths_67 vH_firstCells_67 vH_kinds_67 vH_sizes_67 vH_doorOne_67 vH_doorTwo_67 vH_sorts_67)) (kRunVS (As := []) (rest := []) ⟨hx, hb, hml, hown, ht0⟩ (kX5_readLine l D cy ad _ aR qR aH qH qU vR_j11_63 vR_63 vR_tape vH_43 vU_43 vH_markNights_43 vH_markPlaces_43 vH_markFound_43 vR_thingNames_43 vR_ringNames_43 vH_places_43 vU_things_43 vU_cells_43 vU_nights_43 vU_worths_43 vH_firstCells_43 vH_kinds_43 vH_sizes_43 vH_doorOne_43 vH_doorTwo_43 vH_width_43 vH_sorts_43 vH_next_43 r67 vR_j11_67 vR_67 vH_67 vU_67 vH_markNights_67 vH_markPlaces_67 vH_markFound_67 vR_thingNames_67 vR_ringNames_67 vH_places_67 vU_things_67 vU_cells_67 vU_nights_67 vU_worths_67 vH_firstCells_67 vH_kinds_67 vH_sizes_67 vH_doorOne_67 vH_doorTwo_67 vH_width_67 vH_sorts_67 vH_next_67 hc67 _ rfl) (cwV 0 ht0 (gV wd465 wd466 wd467 wd276 wd468) rfl rfl rfl (by decide +kernel) ⟨Nat.le_of_ble_eq_true rfl, Nat.le_of_ble_eq_true rfl⟩) hK hN hP hD hSt hS hA [0, 5, 1, 2, 6, 7, 8, 9, 10, 11, 12, 13, 14, 15, 16, 17, 18, 19, 20, 4, 21, 3] rfl (by decide) 0 4 rfl rfl rfl hl.1 rfl (Nat.le_of_ble_eq_true rfl) dX5_read_67 ⟨Nat.zero_le _, Nat.zero_le _⟩) hP hD hS hA [0, 5, 1, 2, 6, 7, 8, 9, 10, 11, 12, 13, 14, 15, 16, 17, 18, 19, 20, 4, 21, 3] [] rfl rfl (by decide) (by decide) [0, 2, 3, 21, 19, 1, 4, 5, 6, 7, 8, 9, 10, 11, 12, 13, 14, 15, 16, 17, 18, 20] (by decide) rfl rfl (fun H locs hP hD hS => ?_)
            refine lv_istore_n (lv' := [(2, .int r67), (0, .ref aR), (3, .int y3_43)]) hx hb dX5_read_70 rfl hl (by decide) rfl (fun ls hl => ?_)
            refine lv_iinc (v := (y3_43 + 1)) (lv' := [(3, .int (y3_43 + 1)), (2, .int r67), (0, .ref aR)]) hx hb dX5_read_71 hl (k := 2) rfl (by first | rfl | decide) (by decide) rfl (fun ls hl => ?_)
            refine lv_goto (tgt := 43) hx hb dX5_read_74 (by decide) ?_
            exact ih43 r67 (y3_43 + 1) vH_doorOne_67 vH_doorTwo_67 vH_firstCells_67 vH_kinds_67 vH_markFound_67 vH_markNights_67 vH_markPlaces_67 vH_next_67 vH_places_67 vH_sizes_67 vH_sorts_67 vH_width_67 vR_ringNames_67 vR_thingNames_67 vU_cells_67 vU_nights_67 vU_things_67 vU_worths_67 vR_j11_67 vH_67 vR_67 vU_67 H locs ls hP hD hS (lv_sub hl [2, 1, 0] rfl) (hR43 _ (Option.some.inj hok).symm)
  unfold fX5_read at hok
  obtain ⟨H, hH⟩ : ∃ H, H = s.heap := ⟨_, rfl⟩
  obtain ⟨locs, hlc⟩ : ∃ x : List Loc, x = [] := ⟨_, rfl⟩
  have hP : va_P D vwCl (wX5_read cy aR qR aH qH qU vR_j11 vR vH vU vH_next vH_width vR_tape vH_markNights vH_markPlaces vH_markFound vR_thingNames vR_ringNames vH_places vU_things vU_cells vU_nights vU_worths vH_firstCells vH_kinds vH_sizes vH_doorOne vH_doorTwo vH_sorts) H := by rw [hH]; exact hP
  have hS : va_S A s.heap H locs := by rw [hH, hlc]; exact hS
  rw [show W p l e _ s m _ below meth c s.heap [] = W p l e _ s m _ below meth c H locs from by rw [hH, hlc]]
  refine lv_aload_n hx hb dX5_read_0 rfl (lv_at hl 0 rfl) ?_
  refine lv_iload_n hx hb dX5_read_1 rfl (lv_at hl 1 rfl) ?_
  refine va_put (D := D) (ci := 4) (v := .int x1) (ty := .int) (C := RX5) (T := TX5) (N := 13) hx hb ht0 niX5 tyX5 tyX5_ok nmX5 hown hK hP hD hS 0 rfl rfl 6 (by decide) (ht0 _ wd267) (fun _ h9 => h9) rfl (by decide +kernel) rfl rfl (Nat.le_of_ble_eq_true rfl) dX5_read_2 (fun H locs hP hD hS => ?_)
  have hP : va_P D vwCl (wX5_read cy aR qR aH qH qU vR_j11 (upd vR 6 x1) vH vU vH_next vH_width vR_tape vH_markNights vH_markPlaces vH_markFound vR_thingNames vR_ringNames vH_places vU_things vU_cells vU_nights vU_worths vH_firstCells vH_kinds vH_sizes vH_doorOne vH_doorTwo vH_sorts) H := hP
  have hD : va_D A (wX5_read cy aR qR aH qH qU vR_j11 (upd vR 6 x1) vH vU vH_next vH_width vR_tape vH_markNights vH_markPlaces vH_markFound vR_thingNames vR_ringNames vH_places vU_things vU_cells vU_nights vU_worths vH_firstCells vH_kinds vH_sizes vH_doorOne vH_doorTwo vH_sorts) := hD
  refine lv_aload_n hx hb dX5_read_5 rfl (lv_at hl 0 rfl) ?_
  refine lv_iconst (v := 0) hx hb dX5_read_6 (by decide) ?_
  refine va_put (D := D) (ci := 4) (v := .int 0) (ty := .int) (C := RX5) (T := TX5) (N := 13) hx hb ht0 niX5 tyX5 tyX5_ok nmX5 hown hK hP hD hS 0 rfl rfl 9 (by decide) (ht0 _ wd270) (fun _ h9 => h9) rfl (by decide +kernel) rfl rfl (Nat.le_of_ble_eq_true rfl) dX5_read_7 (fun H locs hP hD hS => ?_)
  have hP : va_P D vwCl (wX5_read cy aR qR aH qH qU vR_j11 (upd (upd vR 6 x1) 9 (0 : Int32)) vH vU vH_next vH_width vR_tape vH_markNights vH_markPlaces vH_markFound vR_thingNames vR_ringNames vH_places vU_things vU_cells vU_nights vU_worths vH_firstCells vH_kinds vH_sizes vH_doorOne vH_doorTwo vH_sorts) H := hP
  have hD : va_D A (wX5_read cy aR qR aH qH qU vR_j11 (upd (upd vR 6 x1) 9 (0 : Int32)) vH vU vH_next vH_width vR_tape vH_markNights vH_markPlaces vH_markFound vR_thingNames vR_ringNames vH_places vU_things vU_cells vU_nights vU_worths vH_firstCells vH_kinds vH_sizes vH_doorOne vH_doorTwo vH_sorts) := hD
  refine lv_aload_n hx hb dX5_read_10 rfl (lv_at hl 0 rfl) ?_
  refine lv_iconst (v := 0) hx hb dX5_read_11 (by decide) ?_
  refine va_put (D := D) (ci := 4) (v := .int 0) (ty := .int) (C := RX5) (T := TX5) (N := 13) hx hb ht0 niX5 tyX5 tyX5_ok nmX5 hown hK hP hD hS 0 rfl rfl 12 (by decide) (ht0 _ wd264) (fun _ h9 => h9) rfl (by decide +kernel) rfl rfl (Nat.le_of_ble_eq_true rfl) dX5_read_12 (fun H locs hP hD hS => ?_)
  have hP : va_P D vwCl (wX5_read cy aR qR aH qH qU vR_j11 (upd (upd (upd vR 6 x1) 9 (0 : Int32)) 12 (0 : Int32)) vH vU vH_next vH_width vR_tape vH_markNights vH_markPlaces vH_markFound vR_thingNames vR_ringNames vH_places vU_things vU_cells vU_nights vU_worths vH_firstCells vH_kinds vH_sizes vH_doorOne vH_doorTwo vH_sorts) H := hP
  have hD : va_D A (wX5_read cy aR qR aH qH qU vR_j11 (upd (upd (upd vR 6 x1) 9 (0 : Int32)) 12 (0 : Int32)) vH vU vH_next vH_width vR_tape vH_markNights vH_markPlaces vH_markFound vR_thingNames vR_ringNames vH_places vU_things vU_cells vU_nights vU_worths vH_firstCells vH_kinds vH_sizes vH_doorOne vH_doorTwo vH_sorts) := hD
  refine lv_aload_n hx hb dX5_read_15 rfl (lv_at hl 0 rfl) ?_
  refine lv_iconst (v := 0) hx hb dX5_read_16 (by decide) ?_
  refine va_put (D := D) (ci := 4) (v := .int 0) (ty := .boolean) (C := RX5) (T := TX5) (N := 13) hx hb ht0 niX5 tyX5 tyX5_ok nmX5 hown hK hP hD hS 0 rfl rfl 5 (by decide) (ht0 _ wd340) (fun _ h9 => h9) rfl (by decide +kernel) rfl rfl (Nat.le_of_ble_eq_true rfl) dX5_read_17 (fun H locs hP hD hS => ?_)
  have hP : va_P D vwCl (wX5_read cy aR qR aH qH qU vR_j11 (upd (upd (upd (upd vR 5 (0 : Int32)) 6 x1) 9 (0 : Int32)) 12 (0 : Int32)) vH vU vH_next vH_width vR_tape vH_markNights vH_markPlaces vH_markFound vR_thingNames vR_ringNames vH_places vU_things vU_cells vU_nights vU_worths vH_firstCells vH_kinds vH_sizes vH_doorOne vH_doorTwo vH_sorts) H := hP
  have hD : va_D A (wX5_read cy aR qR aH qH qU vR_j11 (upd (upd (upd (upd vR 5 (0 : Int32)) 6 x1) 9 (0 : Int32)) 12 (0 : Int32)) vH vU vH_next vH_width vR_tape vH_markNights vH_markPlaces vH_markFound vR_thingNames vR_ringNames vH_places vU_things vU_cells vU_nights vU_worths vH_firstCells vH_kinds vH_sizes vH_doorOne vH_doorTwo vH_sorts) := hD
  refine lv_aload_n hx hb dX5_read_20 rfl (lv_at hl 0 rfl) ?_
  refine va_get (D := D) (ci := 4) (v := .ref aH) (C := RX5) (T := TX5) (N := 13) hx hb ht0 niX5 hown hK hP 0 rfl rfl 2 (by decide) (ht0 _ wd266) (fun _ h9 => h9) rfl dX5_read_21 ?_
  obtain ⟨⟨vH_24, vU_24, vH_next_24, vH_width_24⟩, hc24, hok⟩ := k_bind hok
  try dsimp only at hok
  refine kCv (wc := (wX4_clear cy aH qH qU vH vU vH_next vH_width)) (wc2 := (wX4_clear cy aH qH qU vH_24 vU_24 vH_next_24 vH_width_24)) (wr := [(aR, oX5 (upd (upd (upd (upd vR 5 (0 : Int32)) 6 x1) 9 (0 : Int32)) 12 (0 : Int32)) qR vR_j11 aH), (qR 0, rB cy 900 vR_tape), (qH 17, rI cy 6 vH_markNights), (qH 18, rI cy 6 vH_markPlaces), (qH 19, rZ cy 6 vH_markFound), (qR 4, rJ cy 7 vR_thingNames), (qR 3, rJ cy 4 vR_ringNames), (qH 9, rI cy 4 vH_places), (qU 1, rI cy 6 vU_things), (qU 2, rI cy 6 vU_cells), (qU 3, rI cy 6 vU_nights), (qU 4, rI cy 6 vU_worths), (qH 16, rI cy 7 vH_firstCells), (qH 14, rI cy 7 vH_kinds), (qH 15, rI cy 7 vH_sizes), (qH 12, rI cy 5 vH_doorOne), (qH 13, rI cy 5 vH_doorTwo), (qH 8, rI cy 4 vH_sorts)]) (ws2 := (wX5_read cy aR qR aH qH qU vR_j11 (upd (upd (upd (upd vR 5 (0 : Int32)) 6 x1) 9 (0 : Int32)) 12 (0 : Int32)) vH_24 vU_24 vH_next_24 vH_width_24 vR_tape vH_markNights vH_markPlaces vH_markFound vR_thingNames vR_ringNames vH_places vU_things vU_cells vU_nights vU_worths vH_firstCells vH_kinds vH_sizes vH_doorOne vH_doorTwo vH_sorts)) (kRunV (As := []) (rest := []) ⟨hx, hb, hml, hown, ht0⟩ (kX4_clear l D cy _ aH qH qU vH vU vH_next vH_width vH_24 vU_24 vH_next_24 vH_width_24 hc24 _ rfl) (cwV 0 ht0 (gV wd469 wd470 wd471 wd9 wd472) rfl rfl rfl (by decide +kernel) ⟨Nat.le_of_ble_eq_true rfl, Nat.le_of_ble_eq_true rfl⟩) hK hN hP hD [1, 2, 3, 4] rfl (by decide) 1 3 rfl rfl rfl hl.1 rfl (Nat.le_of_ble_eq_true rfl) dX5_read_24 ⟨Nat.zero_le _, Nat.zero_le _⟩) hP hD hS hA [1, 2, 3, 4] [0, 5, 6, 7, 8, 9, 10, 11, 12, 13, 14, 15, 16, 17, 18, 19, 20, 21] rfl rfl (by decide) (by decide) [0, 18, 19, 20, 21, 1, 2, 3, 4, 5, 6, 7, 8, 9, 10, 11, 12, 13, 14, 15, 16, 17] (by decide) rfl rfl (fun H locs hP hD hS => ?_)
  refine lv_aload_n hx hb dX5_read_27 rfl (lv_at hl 0 rfl) ?_
  refine lv_iconst (v := 0) hx hb dX5_read_28 (by decide) ?_
  refine va_put (D := D) (ci := 4) (v := .int 0) (ty := .int) (C := RX5) (T := TX5) (N := 13) hx hb ht0 niX5 tyX5 tyX5_ok nmX5 hown hK hP hD hS 0 rfl rfl 1 (by decide) (ht0 _ wd262) (fun _ h9 => h9) rfl (by decide +kernel) rfl rfl (Nat.le_of_ble_eq_true rfl) dX5_read_29 (fun H locs hP hD hS => ?_)
  have hP : va_P D vwCl (wX5_read cy aR qR aH qH qU vR_j11 (upd (upd (upd (upd (upd vR 1 (0 : Int32)) 5 (0 : Int32)) 6 x1) 9 (0 : Int32)) 12 (0 : Int32)) vH_24 vU_24 vH_next_24 vH_width_24 vR_tape vH_markNights vH_markPlaces vH_markFound vR_thingNames vR_ringNames vH_places vU_things vU_cells vU_nights vU_worths vH_firstCells vH_kinds vH_sizes vH_doorOne vH_doorTwo vH_sorts) H := hP
  have hD : va_D A (wX5_read cy aR qR aH qH qU vR_j11 (upd (upd (upd (upd (upd vR 1 (0 : Int32)) 5 (0 : Int32)) 6 x1) 9 (0 : Int32)) 12 (0 : Int32)) vH_24 vU_24 vH_next_24 vH_width_24 vR_tape vH_markNights vH_markPlaces vH_markFound vR_thingNames vR_ringNames vH_places vU_things vU_cells vU_nights vU_worths vH_firstCells vH_kinds vH_sizes vH_doorOne vH_doorTwo vH_sorts) := hD
  refine lv_aload_n hx hb dX5_read_32 rfl (lv_at hl 0 rfl) ?_
  obtain ⟨⟨vR_j11_33, vR_33⟩, hc33, hok⟩ := k_bind hok
  try dsimp only at hok
  refine kCv (wc := (wX5_step cy aR qR aH vR_j11 (upd (upd (upd (upd (upd vR 1 (0 : Int32)) 5 (0 : Int32)) 6 x1) 9 (0 : Int32)) 12 (0 : Int32)) vR_tape)) (wc2 := (wX5_step cy aR qR aH vR_j11_33 vR_33 vR_tape)) (wr := [(aH, oX4 vH_24 qH), (qH 7, oX7 vU_24 qU), (qH 10, rI cy 36 vH_next_24), (qH 11, rI cy 36 vH_width_24), (qH 17, rI cy 6 vH_markNights), (qH 18, rI cy 6 vH_markPlaces), (qH 19, rZ cy 6 vH_markFound), (qR 4, rJ cy 7 vR_thingNames), (qR 3, rJ cy 4 vR_ringNames), (qH 9, rI cy 4 vH_places), (qU 1, rI cy 6 vU_things), (qU 2, rI cy 6 vU_cells), (qU 3, rI cy 6 vU_nights), (qU 4, rI cy 6 vU_worths), (qH 16, rI cy 7 vH_firstCells), (qH 14, rI cy 7 vH_kinds), (qH 15, rI cy 7 vH_sizes), (qH 12, rI cy 5 vH_doorOne), (qH 13, rI cy 5 vH_doorTwo), (qH 8, rI cy 4 vH_sorts)]) (ws2 := (wX5_read cy aR qR aH qH qU vR_j11_33 vR_33 vH_24 vU_24 vH_next_24 vH_width_24 vR_tape vH_markNights vH_markPlaces vH_markFound vR_thingNames vR_ringNames vH_places vU_things vU_cells vU_nights vU_worths vH_firstCells vH_kinds vH_sizes vH_doorOne vH_doorTwo vH_sorts)) (kRunV (As := []) (rest := []) ⟨hx, hb, hml, hown, ht0⟩ (kX5_step l D cy _ aR qR aH vR_j11 (upd (upd (upd (upd (upd vR 1 (0 : Int32)) 5 (0 : Int32)) 6 x1) 9 (0 : Int32)) 12 (0 : Int32)) vR_tape vR_j11_33 vR_33 hc33 _ rfl) (cwV 0 ht0 (gV wd328 wd329 wd330 wd276 wd331) rfl rfl rfl (by decide +kernel) ⟨Nat.le_of_ble_eq_true rfl, Nat.le_of_ble_eq_true rfl⟩) hK hN hP hD [0, 5] rfl (by decide) 0 4 rfl rfl rfl hl.1 rfl (Nat.le_of_ble_eq_true rfl) dX5_read_33 ⟨Nat.zero_le _, Nat.zero_le _⟩) hP hD hS hA [0, 5] [1, 2, 3, 4, 6, 7, 8, 9, 10, 11, 12, 13, 14, 15, 16, 17, 18, 19, 20, 21] rfl rfl (by decide) (by decide) [20, 0, 1, 2, 3, 21, 4, 5, 6, 7, 8, 9, 10, 11, 12, 13, 14, 15, 16, 17, 18, 19] (by decide) rfl rfl (fun H locs hP hD hS => ?_)
  refine lv_aload_n hx hb dX5_read_36 rfl (lv_at hl 0 rfl) ?_
  obtain ⟨⟨r37, vR_j11_37, vR_37, vH_37, vU_37, vH_markNights_37, vH_markPlaces_37, vH_markFound_37, vR_thingNames_37, vR_ringNames_37, vH_places_37, vU_things_37, vU_cells_37, vU_nights_37, vU_worths_37, vH_firstCells_37, vH_kinds_37, vH_sizes_37, vH_doorOne_37, vH_doorTwo_37, vH_width_37, vH_sorts_37, vH_next_37⟩, hc37, hok⟩ := k_bind hok
  try dsimp only at hok
  refine kCi (wc := (wX5_readLine cy aR qR aH qH qU vR_j11_33 vR_33 vR_tape vH_24 vU_24 vH_markNights vH_markPlaces vH_markFound vR_thingNames vR_ringNames vH_places vU_things vU_cells vU_nights vU_worths vH_firstCells vH_kinds vH_sizes vH_doorOne vH_doorTwo vH_width_24 vH_sorts vH_next_24)) (wc2 := (wX5_readLine cy aR qR aH qH qU vR_j11_37 vR_37 vR_tape vH_37 vU_37 vH_markNights_37 vH_markPlaces_37 vH_markFound_37 vR_thingNames_37 vR_ringNames_37 vH_places_37 vU_things_37 vU_cells_37 vU_nights_37 vU_worths_37 vH_firstCells_37 vH_kinds_37 vH_sizes_37 vH_doorOne_37 vH_doorTwo_37 vH_width_37 vH_sorts_37 vH_next_37)) (wr := []) (ws2 := (wX5_read cy aR qR aH qH qU vR_j11_37 vR_37 vH_37 vU_37 vH_next_37 vH_width_37 vR_tape vH_markNights_37 vH_markPlaces_37 vH_markFound_37 vR_thingNames_37 vR_ringNames_37 vH_places_37 vU_things_37 vU_cells_37 vU_nights_37 vU_worths_37 vH_firstCells_37 vH_kinds_37 vH_sizes_37 vH_doorOne_37 vH_doorTwo_37 vH_sorts_37)) (kRunVS (As := []) (rest := []) ⟨hx, hb, hml, hown, ht0⟩ (kX5_readLine l D cy ad _ aR qR aH qH qU vR_j11_33 vR_33 vR_tape vH_24 vU_24 vH_markNights vH_markPlaces vH_markFound vR_thingNames vR_ringNames vH_places vU_things vU_cells vU_nights vU_worths vH_firstCells vH_kinds vH_sizes vH_doorOne vH_doorTwo vH_width_24 vH_sorts vH_next_24 r37 vR_j11_37 vR_37 vH_37 vU_37 vH_markNights_37 vH_markPlaces_37 vH_markFound_37 vR_thingNames_37 vR_ringNames_37 vH_places_37 vU_things_37 vU_cells_37 vU_nights_37 vU_worths_37 vH_firstCells_37 vH_kinds_37 vH_sizes_37 vH_doorOne_37 vH_doorTwo_37 vH_width_37 vH_sorts_37 vH_next_37 hc37 _ rfl) (cwV 0 ht0 (gV wd465 wd466 wd467 wd276 wd468) rfl rfl rfl (by decide +kernel) ⟨Nat.le_of_ble_eq_true rfl, Nat.le_of_ble_eq_true rfl⟩) hK hN hP hD hSt hS hA [0, 5, 1, 2, 6, 7, 8, 9, 10, 11, 12, 13, 14, 15, 16, 17, 18, 19, 20, 4, 21, 3] rfl (by decide) 0 4 rfl rfl rfl hl.1 rfl (Nat.le_of_ble_eq_true rfl) dX5_read_37 ⟨Nat.zero_le _, Nat.zero_le _⟩) hP hD hS hA [0, 5, 1, 2, 6, 7, 8, 9, 10, 11, 12, 13, 14, 15, 16, 17, 18, 19, 20, 4, 21, 3] [] rfl rfl (by decide) (by decide) [0, 2, 3, 21, 19, 1, 4, 5, 6, 7, 8, 9, 10, 11, 12, 13, 14, 15, 16, 17, 18, 20] (by decide) rfl rfl (fun H locs hP hD hS => ?_)
  refine lv_istore_n (lv' := [(2, .int r37), (0, .ref aR), (1, .int x1)]) hx hb dX5_read_40 rfl hl (by decide) rfl (fun ls hl => ?_)
  refine lv_iconst (v := 0) hx hb dX5_read_41 (by decide) ?_
  refine lv_istore_n (lv' := [(3, .int 0), (2, .int r37), (0, .ref aR), (1, .int x1)]) hx hb dX5_read_42 rfl hl (by decide) rfl (fun ls hl => ?_)
  exact L43 5000 r37 (0 : Int32) vH_doorOne_37 vH_doorTwo_37 vH_firstCells_37 vH_kinds_37 vH_markFound_37 vH_markNights_37 vH_markPlaces_37 vH_next_37 vH_places_37 vH_sizes_37 vH_sorts_37 vH_width_37 vR_ringNames_37 vR_thingNames_37 vU_cells_37 vU_nights_37 vU_things_37 vU_worths_37 vR_j11_37 vH_37 vR_37 vU_37 H locs ls hP hD hS (lv_sub hl [2, 1, 0] rfl) hok
def wsX6_widen : List Cond := .code yX6_widen cX6_widen 2 none :: W0
abbrev wX6_widen (cy : Nat → ClassId) (aW : Nat) (qW : Nat → Nat) (aH : Nat) (vW : Nat → Int32) : va_W := [(aW, oX6 vW qW aH)]
set_option maxHeartbeats 4000000 in
set_option maxRecDepth 100000 in
theorem kX6_widen (l : Launch) (D : va_G) (cy : Nat → ClassId) (sz : Nat) (aW : Nat) (qW : Nat → Nat) (aH : Nat) (vW : Nat → Int32) (x1 : Int32) (z_vW : Nat → Int32) (hok : fX6_widen vW x1 = some z_vW) (A : Nat → Prop) (hAe : va_A (wX6_widen cy aW qW aH vW) sz = A) : Met l yX6_widen wsX6_widen ({ frames := 0, cells := 0, slots := 0, locals := 0 } : Room) (kPre D cy [.ref aW, .int x1] (wX6_widen cy aW qW aH vW) sz) (kQv D cy A (wX6_widen cy aW qW aH z_vW)) 0 0 A := by
  refine Met.ofW (cc := cX6_widen) (maxL := 2) (ret := none) (by decide) rfl ?_
  intro p e s m args below meth c s₁ B hml hv
  obtain ⟨rfl, hsz, hP, hK, hD0, hN⟩ := hv
  have hx := B.exec
  have hb := B.bytes
  have hr := B.returns
  have ht0 : ∀ w ∈ W0, w.before _ s = true := fun w h => atoms_spec (ws := wsX6_widen) B.pre w (List.mem_cons_of_mem _ h)
  have hown : s.vm.findClass RX6 = some m.cls := findClass_of_methodNamed B.named
  have hlocks := B.notSynchronized
  subst hsz
  have hD : va_D A (wX6_widen cy aW qW aH vW) := by rw [← hAe]; exact hD0.self
  have hA : ∀ q : Nat, s.heap.size ≤ q → A q := fun q h => by rw [← hAe]; exact Or.inr h
  have hS : va_S A s.heap s.heap [] := va_S.rf
  have hl := lv_entry ([.ref aW, .int x1]) (n := 2) (Nat.le_of_ble_eq_true rfl)
  rw [lg_entry_eq]
  generalize (lg_sl ([.ref aW, .int x1]) ++ List.replicate (2 - (lg_sl ([.ref aW, .int x1])).length) Slot.unset).toArray = ls at hl ⊢
  have hl : lv_has ls 2 [(0, .ref aW), (1, .int x1)] := hl
  unfold fX6_widen at hok
  obtain ⟨H, hH⟩ : ∃ H, H = s.heap := ⟨_, rfl⟩
  obtain ⟨locs, hlc⟩ : ∃ x : List Loc, x = [] := ⟨_, rfl⟩
  have hP : va_P D vwCl (wX6_widen cy aW qW aH vW) H := by rw [hH]; exact hP
  have hS : va_S A s.heap H locs := by rw [hH, hlc]; exact hS
  rw [show W p l e _ s m _ below meth c s.heap [] = W p l e _ s m _ below meth c H locs from by rw [hH, hlc]]
  refine lv_aload_n hx hb dX6_widen_0 rfl (lv_at hl 0 rfl) ?_
  refine lv_iload_n hx hb dX6_widen_1 rfl (lv_at hl 1 rfl) ?_
  refine va_put (D := D) (ci := 5) (v := .int x1) (ty := .int) (C := RX6) (T := TX6) (N := 13) hx hb ht0 niX6 tyX6 tyX6_ok nmX6 hown hK hP hD hS 0 rfl rfl 9 (by decide) (ht0 _ wd125) (fun _ h9 => h9) rfl (by decide +kernel) rfl rfl (Nat.le_of_ble_eq_true rfl) dX6_widen_2 (fun H locs hP hD hS => ?_)
  have hP : va_P D vwCl (wX6_widen cy aW qW aH (upd vW 9 x1)) H := hP
  have hD : va_D A (wX6_widen cy aW qW aH (upd vW 9 x1)) := hD
  cases hok
  exact W.vret hx hb hr (fun t ht hW => ⟨⟨(), rfl, trivial, by rw [ht]; exact hP, va_K.moved hW.alike hK, hD⟩, hS.F ht⟩) hS.2.2 dX6_widen_5
def wsX6_sow : List Cond := .code yX6_sow cX6_sow 2 none :: W0
abbrev wX6_sow (cy : Nat → ClassId) (aW : Nat) (qW : Nat → Nat) (aH : Nat) (vW : Nat → Int32) : va_W := [(aW, oX6 vW qW aH)]
set_option maxHeartbeats 4000000 in
set_option maxRecDepth 100000 in
theorem kX6_sow (l : Launch) (D : va_G) (cy : Nat → ClassId) (sz : Nat) (aW : Nat) (qW : Nat → Nat) (aH : Nat) (vW : Nat → Int32) (x1 : Int32) (z_vW : Nat → Int32) (hok : fX6_sow vW x1 = some z_vW) (A : Nat → Prop) (hAe : va_A (wX6_sow cy aW qW aH vW) sz = A) : Met l yX6_sow wsX6_sow ({ frames := 0, cells := 0, slots := 0, locals := 0 } : Room) (kPre D cy [.ref aW, .int x1] (wX6_sow cy aW qW aH vW) sz) (kQv D cy A (wX6_sow cy aW qW aH z_vW)) 0 0 A := by
  refine Met.ofW (cc := cX6_sow) (maxL := 2) (ret := none) (by decide) rfl ?_
  intro p e s m args below meth c s₁ B hml hv
  obtain ⟨rfl, hsz, hP, hK, hD0, hN⟩ := hv
  have hx := B.exec
  have hb := B.bytes
  have hr := B.returns
  have ht0 : ∀ w ∈ W0, w.before _ s = true := fun w h => atoms_spec (ws := wsX6_sow) B.pre w (List.mem_cons_of_mem _ h)
  have hown : s.vm.findClass RX6 = some m.cls := findClass_of_methodNamed B.named
  have hlocks := B.notSynchronized
  subst hsz
  have hD : va_D A (wX6_sow cy aW qW aH vW) := by rw [← hAe]; exact hD0.self
  have hA : ∀ q : Nat, s.heap.size ≤ q → A q := fun q h => by rw [← hAe]; exact Or.inr h
  have hS : va_S A s.heap s.heap [] := va_S.rf
  have hl := lv_entry ([.ref aW, .int x1]) (n := 2) (Nat.le_of_ble_eq_true rfl)
  rw [lg_entry_eq]
  generalize (lg_sl ([.ref aW, .int x1]) ++ List.replicate (2 - (lg_sl ([.ref aW, .int x1])).length) Slot.unset).toArray = ls at hl ⊢
  have hl : lv_has ls 2 [(0, .ref aW), (1, .int x1)] := hl
  unfold fX6_sow at hok
  obtain ⟨H, hH⟩ : ∃ H, H = s.heap := ⟨_, rfl⟩
  obtain ⟨locs, hlc⟩ : ∃ x : List Loc, x = [] := ⟨_, rfl⟩
  have hP : va_P D vwCl (wX6_sow cy aW qW aH vW) H := by rw [hH]; exact hP
  have hS : va_S A s.heap H locs := by rw [hH, hlc]; exact hS
  rw [show W p l e _ s m _ below meth c s.heap [] = W p l e _ s m _ below meth c H locs from by rw [hH, hlc]]
  refine lv_aload_n hx hb dX6_sow_0 rfl (lv_at hl 0 rfl) ?_
  refine lv_iload_n hx hb dX6_sow_1 rfl (lv_at hl 1 rfl) ?_
  refine va_put (D := D) (ci := 5) (v := .int x1) (ty := .int) (C := RX6) (T := TX6) (N := 13) hx hb ht0 niX6 tyX6 tyX6_ok nmX6 hown hK hP hD hS 0 rfl rfl 10 (by decide) (ht0 _ wd473) (fun _ h9 => h9) rfl (by decide +kernel) rfl rfl (Nat.le_of_ble_eq_true rfl) dX6_sow_2 (fun H locs hP hD hS => ?_)
  have hP : va_P D vwCl (wX6_sow cy aW qW aH (upd vW 10 x1)) H := hP
  have hD : va_D A (wX6_sow cy aW qW aH (upd vW 10 x1)) := hD
  cases hok
  exact W.vret hx hb hr (fun t ht hW => ⟨⟨(), rfl, trivial, by rw [ht]; exact hP, va_K.moved hW.alike hK, hD⟩, hS.F ht⟩) hS.2.2 dX6_sow_5
def wsX6_shift : List Cond := .code yX6_shift cX6_shift 3 none :: W0
abbrev wX6_shift (cy : Nat → ClassId) (aW : Nat) (qW : Nat → Nat) (aH : Nat) (vW : Nat → Int32) (vW_cells : Nat → Int32) (vW_who : Nat → Int32) : va_W := [(aW, oX6 vW qW aH), (qW 0, rI cy 7 vW_cells), (qW 1, rI cy 36 vW_who)]
set_option maxHeartbeats 4000000 in
set_option maxRecDepth 100000 in
theorem kX6_shift (l : Launch) (D : va_G) (cy : Nat → ClassId) (sz : Nat) (aW : Nat) (qW : Nat → Nat) (aH : Nat) (vW : Nat → Int32) (vW_cells : Nat → Int32) (vW_who : Nat → Int32) (x1 : Int32) (x2 : Int32) (z_vW_cells : Nat → Int32) (z_vW_who : Nat → Int32) (hok : fX6_shift vW vW_cells vW_who x1 x2 = some (z_vW_cells, z_vW_who)) (A : Nat → Prop) (hAe : va_A (wX6_shift cy aW qW aH vW vW_cells vW_who) sz = A) : Met l yX6_shift wsX6_shift ({ frames := 1, cells := 0, slots := 0, locals := 22 } : Room) (kPre D cy [.ref aW, .int x1, .int x2] (wX6_shift cy aW qW aH vW vW_cells vW_who) sz) (kQv D cy A (wX6_shift cy aW qW aH vW z_vW_cells z_vW_who)) 0 0 A := by
  refine Met.ofW (cc := cX6_shift) (maxL := 3) (ret := none) (by decide) rfl ?_
  intro p e s m args below meth c s₁ B hml hv
  obtain ⟨rfl, hsz, hP, hK, hD0, hN⟩ := hv
  have hx := B.exec
  have hb := B.bytes
  have hr := B.returns
  have ht0 : ∀ w ∈ W0, w.before _ s = true := fun w h => atoms_spec (ws := wsX6_shift) B.pre w (List.mem_cons_of_mem _ h)
  have hown : s.vm.findClass RX6 = some m.cls := findClass_of_methodNamed B.named
  have hlocks := B.notSynchronized
  subst hsz
  have hD : va_D A (wX6_shift cy aW qW aH vW vW_cells vW_who) := by rw [← hAe]; exact hD0.self
  have hA : ∀ q : Nat, s.heap.size ≤ q → A q := fun q h => by rw [← hAe]; exact Or.inr h
  have hS : va_S A s.heap s.heap [] := va_S.rf
  have hl := lv_entry ([.ref aW, .int x1, .int x2]) (n := 3) (Nat.le_of_ble_eq_true rfl)
  rw [lg_entry_eq]
  generalize (lg_sl ([.ref aW, .int x1, .int x2]) ++ List.replicate (3 - (lg_sl ([.ref aW, .int x1, .int x2])).length) Slot.unset).toArray = ls at hl ⊢
  have hl : lv_has ls 3 [(0, .ref aW), (1, .int x1), (2, .int x2)] := hl
  generalize hQe : MQ below (kQv D cy A (wX6_shift cy aW qW aH vW z_vW_cells z_vW_who)) ([.ref aW, .int x1, .int x2] : List Value).toArray s 0 0 A = Q
  have J34 : ∀ (vW_cells_34 : Nat → Int32) (vW_who_34 : Nat → Int32), ∀ (H : Heap) (locs : List Loc) (ls : Array Slot), va_P D vwCl (wX6_shift cy aW qW aH vW vW_cells_34 vW_who_34) H → va_D A (wX6_shift cy aW qW aH vW vW_cells_34 vW_who_34) → va_S A s.heap H locs → lv_has ls 3 [] → fX6_shift_J34 vW_cells_34 vW_who_34 = some (z_vW_cells, z_vW_who) → W p l e ({ frames := 1, cells := 0, slots := 0, locals := 22 } : Room) s m ([.ref aW, .int x1, .int x2] : List Value).toArray below meth c H locs 0 0 Q (F0 m 34 ls []) := by
    intro vW_cells_34 vW_who_34 H locs ls hP hD hS hl hok
    unfold fX6_shift_J34 at hok
    cases hok
    subst hQe; exact W.vret hx hb hr (fun t ht hW => ⟨⟨(), rfl, trivial, by rw [ht]; exact hP, va_K.moved hW.alike hK, hD⟩, hS.F ht⟩) hS.2.2 dX6_shift_34
  unfold fX6_shift at hok
  obtain ⟨H, hH⟩ : ∃ H, H = s.heap := ⟨_, rfl⟩
  obtain ⟨locs, hlc⟩ : ∃ x : List Loc, x = [] := ⟨_, rfl⟩
  have hP : va_P D vwCl (wX6_shift cy aW qW aH vW vW_cells vW_who) H := by rw [hH]; exact hP
  have hS : va_S A s.heap H locs := by rw [hH, hlc]; exact hS
  rw [show W p l e _ s m _ below meth c s.heap [] = W p l e _ s m _ below meth c H locs from by rw [hH, hlc]]
  refine lv_iload_n hx hb dX6_shift_0 rfl (lv_at hl 1 rfl) ?_
  refine lv_if_lt (tgt := 34) hx hb dX6_shift_1 (by decide) (fun c1 => ?_) (fun c1 => ?_)
  · have hok := k_pos c1 hok
    exact J34 vW_cells vW_who H locs ls hP hD hS (lv_sub hl [] rfl) hok
  · have hok := k_neg c1 hok
    refine lv_iload_n hx hb dX6_shift_4 rfl (lv_at hl 1 rfl) ?_
    refine lv_bipush (v := 7) hx hb dX6_shift_5 (by decide) ?_
    refine lv_icmp_ge (tgt := 34) hx hb dX6_shift_7 (by decide) (fun c7 => ?_) (fun c7 => ?_)
    · have hok := k_pos c7 hok
      exact J34 vW_cells vW_who H locs ls hP hD hS (lv_sub hl [] rfl) hok
    · have hok := k_neg c7 hok
      refine lv_aload_n hx hb dX6_shift_10 rfl (lv_at hl 0 rfl) ?_
      refine lv_iconst (v := -1) hx hb dX6_shift_11 (by decide) ?_
      refine lv_aload_n hx hb dX6_shift_12 rfl (lv_at hl 0 rfl) ?_
      refine va_get (D := D) (ci := 5) (v := .ref (qW 0)) (C := RX6) (T := TX6) (N := 13) hx hb ht0 niX6 hown hK hP 0 rfl rfl 0 (by decide) (ht0 _ wd110) (fun _ h9 => h9) rfl dX6_shift_13 ?_
      refine lv_iload_n hx hb dX6_shift_16 rfl (lv_at hl 1 rfl) ?_
      obtain ⟨g17, hok⟩ := gd_some hok
      refine va_iald hx hb hK hP 1 0 rfl rfl (okI_in g17) dX6_shift_17 ?_
      obtain ⟨vW_who_18, hc18, hok⟩ := k_bind hok
      refine kCv (wc := (wX6_seat cy aW qW aH vW vW_who)) (wc2 := (wX6_seat cy aW qW aH vW vW_who_18)) (wr := [(qW 0, rI cy 7 vW_cells)]) (ws2 := (wX6_shift cy aW qW aH vW vW_cells vW_who_18)) (kRunV (As := [.int (-1), .int (vW_cells x1.toNatClampNeg)]) (rest := []) ⟨hx, hb, hml, hown, ht0⟩ (kX6_seat l D cy _ aW qW aH vW vW_who (-1 : Int32) (vW_cells x1.toNatClampNeg) vW_who_18 hc18 _ rfl) (cwV 2 ht0 (gV wd111 wd112 wd113 wd114 wd115) rfl rfl rfl (by decide +kernel) ⟨Nat.le_of_ble_eq_true rfl, Nat.le_of_ble_eq_true rfl⟩) hK hN hP hD [0, 2] rfl (by decide) 0 5 rfl rfl rfl hl.1 rfl (Nat.le_of_ble_eq_true rfl) dX6_shift_18 ⟨Nat.zero_le _, Nat.zero_le _⟩) hP hD hS hA [0, 2] [1] rfl rfl (by decide) (by decide) [1, 0, 2] (by decide) rfl rfl (fun H locs hP hD hS => ?_)
      refine lv_aload_n hx hb dX6_shift_21 rfl (lv_at hl 0 rfl) ?_
      refine va_get (D := D) (ci := 5) (v := .ref (qW 0)) (C := RX6) (T := TX6) (N := 13) hx hb ht0 niX6 hown hK hP 0 rfl rfl 0 (by decide) (ht0 _ wd110) (fun _ h9 => h9) rfl dX6_shift_22 ?_
      refine lv_iload_n hx hb dX6_shift_25 rfl (lv_at hl 1 rfl) ?_
      refine lv_iload_n hx hb dX6_shift_26 rfl (lv_at hl 2 rfl) ?_
      obtain ⟨g27, hok⟩ := gd_some hok
      refine va_iast hx hb hK hP hD hS 1 0 rfl rfl (okI_in g27) dX6_shift_27 (fun H locs hP hD hS => ?_)
      have hP : va_P D vwCl (wX6_shift cy aW qW aH vW (upd vW_cells x1.toNatClampNeg x2) vW_who_18) H := hP
      have hD : va_D A (wX6_shift cy aW qW aH vW (upd vW_cells x1.toNatClampNeg x2) vW_who_18) := hD
      refine lv_aload_n hx hb dX6_shift_28 rfl (lv_at hl 0 rfl) ?_
      refine lv_iload_n hx hb dX6_shift_29 rfl (lv_at hl 1 rfl) ?_
      refine lv_iload_n hx hb dX6_shift_30 rfl (lv_at hl 2 rfl) ?_
      obtain ⟨vW_who_31, hc31, hok⟩ := k_bind hok
      refine kCv (wc := (wX6_seat cy aW qW aH vW vW_who_18)) (wc2 := (wX6_seat cy aW qW aH vW vW_who_31)) (wr := [(qW 0, rI cy 7 (upd vW_cells x1.toNatClampNeg x2))]) (ws2 := (wX6_shift cy aW qW aH vW (upd vW_cells x1.toNatClampNeg x2) vW_who_31)) (kRunV (As := [.int x1, .int x2]) (rest := []) ⟨hx, hb, hml, hown, ht0⟩ (kX6_seat l D cy _ aW qW aH vW vW_who_18 x1 x2 vW_who_31 hc31 _ rfl) (cwV 2 ht0 (gV wd111 wd112 wd113 wd114 wd115) rfl rfl rfl (by decide +kernel) ⟨Nat.le_of_ble_eq_true rfl, Nat.le_of_ble_eq_true rfl⟩) hK hN hP hD [0, 2] rfl (by decide) 0 5 rfl rfl rfl hl.1 rfl (Nat.le_of_ble_eq_true rfl) dX6_shift_31 ⟨Nat.zero_le _, Nat.zero_le _⟩) hP hD hS hA [0, 2] [1] rfl rfl (by decide) (by decide) [1, 0, 2] (by decide) rfl rfl (fun H locs hP hD hS => ?_)
      exact J34 (upd vW_cells x1.toNatClampNeg x2) vW_who_31 H locs ls hP hD hS (lv_sub hl [] rfl) hok
def wsX6_went : List Cond := .code yX6_went cX6_went 1 (some .int) :: W0
abbrev wX6_went (cy : Nat → ClassId) (aW : Nat) (qW : Nat → Nat) (aH : Nat) (vW : Nat → Int32) : va_W := [(aW, oX6 vW qW aH)]
set_option maxHeartbeats 4000000 in
set_option maxRecDepth 100000 in
theorem kX6_went (l : Launch) (D : va_G) (cy : Nat → ClassId) (sz : Nat) (aW : Nat) (qW : Nat → Nat) (aH : Nat) (vW : Nat → Int32) (zr : Int32) (hok : fX6_went vW = some zr) (A : Nat → Prop) (hAe : va_A (wX6_went cy aW qW aH vW) sz = A) : Met l yX6_went wsX6_went ({ frames := 0, cells := 0, slots := 0, locals := 0 } : Room) (kPre D cy [.ref aW] (wX6_went cy aW qW aH vW) sz) (kQi D cy zr A (wX6_went cy aW qW aH vW)) 0 0 A := by
  refine Met.ofW (cc := cX6_went) (maxL := 1) (ret := (some .int)) (by decide) rfl ?_
  intro p e s m args below meth c s₁ B hml hv
  obtain ⟨rfl, hsz, hP, hK, hD0, hN⟩ := hv
  have hx := B.exec
  have hb := B.bytes
  have hr := B.returns
  have ht0 : ∀ w ∈ W0, w.before _ s = true := fun w h => atoms_spec (ws := wsX6_went) B.pre w (List.mem_cons_of_mem _ h)
  have hown : s.vm.findClass RX6 = some m.cls := findClass_of_methodNamed B.named
  have hlocks := B.notSynchronized
  subst hsz
  have hD : va_D A (wX6_went cy aW qW aH vW) := by rw [← hAe]; exact hD0.self
  have hA : ∀ q : Nat, s.heap.size ≤ q → A q := fun q h => by rw [← hAe]; exact Or.inr h
  have hS : va_S A s.heap s.heap [] := va_S.rf
  have hl := lv_entry ([.ref aW]) (n := 1) (Nat.le_of_ble_eq_true rfl)
  rw [lg_entry_eq]
  generalize (lg_sl ([.ref aW]) ++ List.replicate (1 - (lg_sl ([.ref aW])).length) Slot.unset).toArray = ls at hl ⊢
  have hl : lv_has ls 1 [(0, .ref aW)] := hl
  unfold fX6_went at hok
  obtain ⟨H, hH⟩ : ∃ H, H = s.heap := ⟨_, rfl⟩
  obtain ⟨locs, hlc⟩ : ∃ x : List Loc, x = [] := ⟨_, rfl⟩
  have hP : va_P D vwCl (wX6_went cy aW qW aH vW) H := by rw [hH]; exact hP
  have hS : va_S A s.heap H locs := by rw [hH, hlc]; exact hS
  rw [show W p l e _ s m _ below meth c s.heap [] = W p l e _ s m _ below meth c H locs from by rw [hH, hlc]]
  refine lv_aload_n hx hb dX6_went_0 rfl (lv_at hl 0 rfl) ?_
  refine va_get (D := D) (ci := 5) (v := .int (vW 12)) (C := RX6) (T := TX6) (N := 13) hx hb ht0 niX6 hown hK hP 0 rfl rfl 12 (by decide) (ht0 _ wd136) (fun _ h9 => h9) rfl dX6_went_1 ?_
  cases hok
  exact W.iret hx hb hr (fun t ht hW => ⟨⟨_, (), rfl, rfl, by rw [ht]; exact hP, va_K.moved hW.alike hK, hD⟩, hS.F ht⟩) hS.2.2 dX6_went_4
def wsX6_stuck : List Cond := .code yX6_stuck cX6_stuck 1 (some .int) :: W0
abbrev wX6_stuck (cy : Nat → ClassId) (aW : Nat) (qW : Nat → Nat) (aH : Nat) (qH : Nat → Nat) (vW : Nat → Int32) (vH : Nat → Int32) : va_W := [(aW, oX6 vW qW aH), (aH, oX4 vH qH)]
set_option maxHeartbeats 4000000 in
set_option maxRecDepth 100000 in
theorem kX6_stuck (l : Launch) (D : va_G) (cy : Nat → ClassId) (sz : Nat) (aW : Nat) (qW : Nat → Nat) (aH : Nat) (qH : Nat → Nat) (vW : Nat → Int32) (vH : Nat → Int32) (zr : Int32) (hok : fX6_stuck vW vH = some zr) (A : Nat → Prop) (hAe : va_A (wX6_stuck cy aW qW aH qH vW vH) sz = A) : Met l yX6_stuck wsX6_stuck ({ frames := 0, cells := 0, slots := 0, locals := 0 } : Room) (kPre D cy [.ref aW] (wX6_stuck cy aW qW aH qH vW vH) sz) (kQi D cy zr A (wX6_stuck cy aW qW aH qH vW vH)) 0 0 A := by
  refine Met.ofW (cc := cX6_stuck) (maxL := 1) (ret := (some .int)) (by decide) rfl ?_
  intro p e s m args below meth c s₁ B hml hv
  obtain ⟨rfl, hsz, hP, hK, hD0, hN⟩ := hv
  have hx := B.exec
  have hb := B.bytes
  have hr := B.returns
  have ht0 : ∀ w ∈ W0, w.before _ s = true := fun w h => atoms_spec (ws := wsX6_stuck) B.pre w (List.mem_cons_of_mem _ h)
  have hown : s.vm.findClass RX6 = some m.cls := findClass_of_methodNamed B.named
  have hlocks := B.notSynchronized
  subst hsz
  have hD : va_D A (wX6_stuck cy aW qW aH qH vW vH) := by rw [← hAe]; exact hD0.self
  have hA : ∀ q : Nat, s.heap.size ≤ q → A q := fun q h => by rw [← hAe]; exact Or.inr h
  have hS : va_S A s.heap s.heap [] := va_S.rf
  have hl := lv_entry ([.ref aW]) (n := 1) (Nat.le_of_ble_eq_true rfl)
  rw [lg_entry_eq]
  generalize (lg_sl ([.ref aW]) ++ List.replicate (1 - (lg_sl ([.ref aW])).length) Slot.unset).toArray = ls at hl ⊢
  have hl : lv_has ls 1 [(0, .ref aW)] := hl
  unfold fX6_stuck at hok
  obtain ⟨H, hH⟩ : ∃ H, H = s.heap := ⟨_, rfl⟩
  obtain ⟨locs, hlc⟩ : ∃ x : List Loc, x = [] := ⟨_, rfl⟩
  have hP : va_P D vwCl (wX6_stuck cy aW qW aH qH vW vH) H := by rw [hH]; exact hP
  have hS : va_S A s.heap H locs := by rw [hH, hlc]; exact hS
  rw [show W p l e _ s m _ below meth c s.heap [] = W p l e _ s m _ below meth c H locs from by rw [hH, hlc]]
  refine lv_iconst (v := 1) hx hb dX6_stuck_0 (by decide) ?_
  refine lv_aload_n hx hb dX6_stuck_1 rfl (lv_at hl 0 rfl) ?_
  refine va_get (D := D) (ci := 5) (v := .ref aH) (C := RX6) (T := TX6) (N := 13) hx hb ht0 niX6 hown hK hP 0 rfl rfl 4 (by decide) (ht0 _ wd101) (fun _ h9 => h9) rfl dX6_stuck_2 ?_
  refine va_get (D := D) (ci := 3) (v := .int (vH 5)) (C := RX4) (T := TX4) (N := 20) hx hb ht0 niX4 hown hK hP 1 rfl rfl 5 (by decide) (ht0 _ wd107) (fun _ h9 => h9) rfl dX6_stuck_5 ?_
  refine lv_ishl hx hb dX6_stuck_8 ?_
  refine lv_iconst (v := 1) hx hb dX6_stuck_9 (by decide) ?_
  refine lv_isub hx hb dX6_stuck_10 ?_
  refine lv_aload_n hx hb dX6_stuck_11 rfl (lv_at hl 0 rfl) ?_
  refine va_get (D := D) (ci := 5) (v := .int (vW 12)) (C := RX6) (T := TX6) (N := 13) hx hb ht0 niX6 hown hK hP 0 rfl rfl 12 (by decide) (ht0 _ wd136) (fun _ h9 => h9) rfl dX6_stuck_12 ?_
  refine lv_iconst (v := -1) hx hb dX6_stuck_15 (by decide) ?_
  refine lv_ixor hx hb dX6_stuck_16 ?_
  refine lv_iand hx hb dX6_stuck_17 ?_
  refine lv_aload_n hx hb dX6_stuck_18 rfl (lv_at hl 0 rfl) ?_
  refine va_get (D := D) (ci := 5) (v := .int (vW 11)) (C := RX6) (T := TX6) (N := 13) hx hb ht0 niX6 hown hK hP 0 rfl rfl 11 (by decide) (ht0 _ wd131) (fun _ h9 => h9) rfl dX6_stuck_19 ?_
  refine lv_iconst (v := -1) hx hb dX6_stuck_22 (by decide) ?_
  refine lv_ixor hx hb dX6_stuck_23 ?_
  refine lv_iand hx hb dX6_stuck_24 ?_
  cases hok
  exact W.iret hx hb hr (fun t ht hW => ⟨⟨_, (), rfl, rfl, by rw [ht]; exact hP, va_K.moved hW.alike hK, hD⟩, hS.F ht⟩) hS.2.2 dX6_stuck_25
def wsX6_passDamp : List Cond := .code yX6_passDamp cX6_passDamp 3 none :: W0
abbrev wX6_passDamp (cy : Nat → ClassId) (aW : Nat) (qW : Nat → Nat) (aH : Nat) (qH : Nat → Nat) (vW : Nat → Int32) (vH : Nat → Int32) (vW_cells : Nat → Int32) (vH_next : Nat → Int32) (vW_who : Nat → Int32) (vW_inFront : Nat → Int32) (vH_sizes : Nat → Int32) (vH_width : Nat → Int32) (vH_kinds : Nat → Int32) : va_W := [(aW, oX6 vW qW aH), (aH, oX4 vH qH), (qW 0, rI cy 7 vW_cells), (qH 10, rI cy 36 vH_next), (qW 1, rI cy 36 vW_who), (qW 2, rI cy 7 vW_inFront), (qH 15, rI cy 7 vH_sizes), (qH 11, rI cy 36 vH_width), (qH 14, rI cy 7 vH_kinds)]
set_option maxHeartbeats 4000000 in
set_option maxRecDepth 100000 in
theorem kX6_passDamp (l : Launch) (D : va_G) (cy : Nat → ClassId) (sz : Nat) (aW : Nat) (qW : Nat → Nat) (aH : Nat) (qH : Nat → Nat) (vW : Nat → Int32) (vH : Nat → Int32) (vW_cells : Nat → Int32) (vH_next : Nat → Int32) (vW_who : Nat → Int32) (vW_inFront : Nat → Int32) (vH_sizes : Nat → Int32) (vH_width : Nat → Int32) (vH_kinds : Nat → Int32) (z_vW : Nat → Int32) (z_vW_cells : Nat → Int32) (z_vW_who : Nat → Int32) (z_vW_inFront : Nat → Int32) (hok : fX6_passDamp vW vH vW_cells vH_next vW_who vW_inFront vH_sizes vH_width vH_kinds = some (z_vW, z_vW_cells, z_vW_who, z_vW_inFront)) (A : Nat → Prop) (hAe : va_A (wX6_passDamp cy aW qW aH qH vW vH vW_cells vH_next vW_who vW_inFront vH_sizes vH_width vH_kinds) sz = A) : Met l yX6_passDamp wsX6_passDamp ({ frames := 3, cells := 0, slots := 0, locals := 73 } : Room) (kPre D cy [.ref aW] (wX6_passDamp cy aW qW aH qH vW vH vW_cells vH_next vW_who vW_inFront vH_sizes vH_width vH_kinds) sz) (kQv D cy A (wX6_passDamp cy aW qW aH qH z_vW vH z_vW_cells vH_next z_vW_who z_vW_inFront vH_sizes vH_width vH_kinds)) 0 0 A := by
  refine Met.ofW (cc := cX6_passDamp) (maxL := 3) (ret := none) (by decide) rfl ?_
  intro p e s m args below meth c s₁ B hml hv
  obtain ⟨rfl, hsz, hP, hK, hD0, hN⟩ := hv
  have hx := B.exec
  have hb := B.bytes
  have hr := B.returns
  have ht0 : ∀ w ∈ W0, w.before _ s = true := fun w h => atoms_spec (ws := wsX6_passDamp) B.pre w (List.mem_cons_of_mem _ h)
  have hown : s.vm.findClass RX6 = some m.cls := findClass_of_methodNamed B.named
  have hlocks := B.notSynchronized
  subst hsz
  have hD : va_D A (wX6_passDamp cy aW qW aH qH vW vH vW_cells vH_next vW_who vW_inFront vH_sizes vH_width vH_kinds) := by rw [← hAe]; exact hD0.self
  have hA : ∀ q : Nat, s.heap.size ≤ q → A q := fun q h => by rw [← hAe]; exact Or.inr h
  have hS : va_S A s.heap s.heap [] := va_S.rf
  have hl := lv_entry ([.ref aW]) (n := 3) (Nat.le_of_ble_eq_true rfl)
  rw [lg_entry_eq]
  generalize (lg_sl ([.ref aW]) ++ List.replicate (3 - (lg_sl ([.ref aW])).length) Slot.unset).toArray = ls at hl ⊢
  have hl : lv_has ls 3 [(0, .ref aW)] := hl
  generalize hQe : MQ below (kQv D cy A (wX6_passDamp cy aW qW aH qH z_vW vH z_vW_cells vH_next z_vW_who z_vW_inFront vH_sizes vH_width vH_kinds)) ([.ref aW] : List Value).toArray s 0 0 A = Q
  have J71 : ∀ (y1_71 : Int32) (vW_71 : Nat → Int32), ∀ (H : Heap) (locs : List Loc) (ls : Array Slot), va_P D vwCl (wX6_passDamp cy aW qW aH qH vW_71 vH vW_cells vH_next vW_who vW_inFront vH_sizes vH_width vH_kinds) H → va_D A (wX6_passDamp cy aW qW aH qH vW_71 vH vW_cells vH_next vW_who vW_inFront vH_sizes vH_width vH_kinds) → va_S A s.heap H locs → lv_has ls 3 [(0, .ref aW), (1, .int y1_71)] → fX6_passDamp_J71 vH vW_cells vH_next vW_who vW_inFront vH_sizes vH_width vH_kinds y1_71 vW_71 = some (z_vW, z_vW_cells, z_vW_who, z_vW_inFront) → W p l e ({ frames := 3, cells := 0, slots := 0, locals := 73 } : Room) s m ([.ref aW] : List Value).toArray below meth c H locs 0 0 Q (F0 m 71 ls []) := by
    intro y1_71 vW_71 H locs ls hP hD hS hl hok
    unfold fX6_passDamp_J71 at hok
    refine lv_aload_n hx hb dX6_passDamp_71 rfl (lv_at hl 0 rfl) ?_
    refine lv_iload_n hx hb dX6_passDamp_72 rfl (lv_at hl 1 rfl) ?_
    obtain ⟨⟨vW_73, vW_cells_73, vW_who_73, vW_inFront_73⟩, hc73, hok⟩ := k_bind hok
    try dsimp only at hok
    refine kCv (wc := (wX6_pass cy aW qW aH qH vW_71 vH vW_cells vH_next vW_who vW_inFront vH_sizes vH_width vH_kinds)) (wc2 := (wX6_pass cy aW qW aH qH vW_73 vH vW_cells_73 vH_next vW_who_73 vW_inFront_73 vH_sizes vH_width vH_kinds)) (wr := []) (ws2 := (wX6_passDamp cy aW qW aH qH vW_73 vH vW_cells_73 vH_next vW_who_73 vW_inFront_73 vH_sizes vH_width vH_kinds)) (kRunV (As := [.int y1_71]) (rest := []) ⟨hx, hb, hml, hown, ht0⟩ (kX6_pass l D cy _ aW qW aH qH vW_71 vH vW_cells vH_next vW_who vW_inFront vH_sizes vH_width vH_kinds y1_71 vW_73 vW_cells_73 vW_who_73 vW_inFront_73 hc73 _ rfl) (cwV 1 ht0 (gV wd154 wd155 wd156 wd114 wd157) rfl rfl rfl (by decide +kernel) ⟨Nat.le_of_ble_eq_true rfl, Nat.le_of_ble_eq_true rfl⟩) hK hN hP hD [0, 1, 2, 3, 4, 5, 6, 7, 8] rfl (by decide) 0 5 rfl rfl rfl hl.1 rfl (Nat.le_of_ble_eq_true rfl) dX6_passDamp_73 ⟨Nat.zero_le _, Nat.zero_le _⟩) hP hD hS hA [0, 1, 2, 3, 4, 5, 6, 7, 8] [] rfl rfl (by decide) (by decide) [0, 1, 2, 3, 4, 5, 6, 7, 8] (by decide) rfl rfl (fun H locs hP hD hS => ?_)
    cases hok
    subst hQe; exact W.vret hx hb hr (fun t ht hW => ⟨⟨(), rfl, trivial, by rw [ht]; exact hP, va_K.moved hW.alike hK, hD⟩, hS.F ht⟩) hS.2.2 dX6_passDamp_76
  have L4 : ∀ (fuel : Nat) (y1_4 : Int32) (y2_4 : Int32) (vW_4 : Nat → Int32), ∀ (H : Heap) (locs : List Loc) (ls : Array Slot), va_P D vwCl (wX6_passDamp cy aW qW aH qH vW_4 vH vW_cells vH_next vW_who vW_inFront vH_sizes vH_width vH_kinds) H → va_D A (wX6_passDamp cy aW qW aH qH vW_4 vH vW_cells vH_next vW_who vW_inFront vH_sizes vH_width vH_kinds) → va_S A s.heap H locs → lv_has ls 3 [(0, .ref aW), (1, .int y1_4), (2, .int y2_4)] → lp (fX6_passDamp_B4 vH vW_cells vH_next vW_who vW_inFront vH_sizes vH_width vH_kinds) fuel (y1_4, y2_4, vW_4) = some (z_vW, z_vW_cells, z_vW_who, z_vW_inFront) → W p l e ({ frames := 3, cells := 0, slots := 0, locals := 73 } : Room) s m ([.ref aW] : List Value).toArray below meth c H locs 0 0 Q (F0 m 4 ls []) := by
    intro fuel
    induction fuel with
    | zero => intro y1_4 y2_4 vW_4 H locs ls hP hD hS hl hok; exact (lp_0 hok).elim
    | succ fuel ih4 =>
      intro y1_4 y2_4 vW_4 H locs ls hP hD hS hl hok
      obtain ⟨y4, hok, hL4, hR4⟩ := lp_step hok
      have J63 : ∀ (t0_63 : Int32), ∀ (H : Heap) (locs : List Loc) (ls : Array Slot), va_P D vwCl (wX6_passDamp cy aW qW aH qH (upd vW_4 10 (irm (((75 : Int32) * (vW_4 10)) + (74 : Int32)) (65537 : Int32))) vH vW_cells vH_next vW_who vW_inFront vH_sizes vH_width vH_kinds) H → va_D A (wX6_passDamp cy aW qW aH qH (upd vW_4 10 (irm (((75 : Int32) * (vW_4 10)) + (74 : Int32)) (65537 : Int32))) vH vW_cells vH_next vW_who vW_inFront vH_sizes vH_width vH_kinds) → va_S A s.heap H locs → lv_has ls 3 [(0, .ref aW), (2, .int y2_4)] → fX6_passDamp_J63 y1_4 y2_4 vW_4 t0_63 = some y4 → W p l e ({ frames := 3, cells := 0, slots := 0, locals := 73 } : Room) s m ([.ref aW] : List Value).toArray below meth c H locs 0 0 Q (F0 m 63 ls [.int t0_63, .int y1_4]) := by
        intro t0_63 H locs ls hP hD hS hl hok
        unfold fX6_passDamp_J63 at hok
        refine lv_ior hx hb dX6_passDamp_63 ?_
        refine lv_istore_n (lv' := [(1, .int (y1_4 ||| t0_63)), (0, .ref aW), (2, .int y2_4)]) hx hb dX6_passDamp_64 rfl hl (by decide) rfl (fun ls hl => ?_)
        refine lv_iinc (v := (y2_4 + 1)) (lv' := [(2, .int (y2_4 + 1)), (1, .int (y1_4 ||| t0_63)), (0, .ref aW)]) hx hb dX6_passDamp_65 hl (k := 2) rfl (by first | rfl | decide) (by decide) rfl (fun ls hl => ?_)
        refine lv_goto (tgt := 4) hx hb dX6_passDamp_68 (by decide) ?_
        exact ih4 (y1_4 ||| t0_63) (y2_4 + 1) (upd vW_4 10 (irm (((75 : Int32) * (vW_4 10)) + (74 : Int32)) (65537 : Int32))) H locs ls hP hD hS (lv_sub hl [2, 1, 0] rfl) (hR4 _ (Option.some.inj hok).symm)
      unfold fX6_passDamp_B4 at hok
      try dsimp only at hok
      refine lv_iload_n hx hb dX6_passDamp_4 rfl (lv_at hl 2 rfl) ?_
      refine lv_aload_n hx hb dX6_passDamp_5 rfl (lv_at hl 0 rfl) ?_
      refine va_get (D := D) (ci := 5) (v := .ref aH) (C := RX6) (T := TX6) (N := 13) hx hb ht0 niX6 hown hK hP 0 rfl rfl 4 (by decide) (ht0 _ wd101) (fun _ h9 => h9) rfl dX6_passDamp_6 ?_
      refine va_get (D := D) (ci := 3) (v := .int (vH 5)) (C := RX4) (T := TX4) (N := 20) hx hb ht0 niX4 hown hK hP 1 rfl rfl 5 (by decide) (ht0 _ wd107) (fun _ h9 => h9) rfl dX6_passDamp_9 ?_
      refine lv_icmp_ge (tgt := 71) hx hb dX6_passDamp_12 (by decide) (fun c12 => ?_) (fun c12 => ?_)
      · have hok := k_pos c12 hok
        obtain ⟨e4, hok, he4⟩ := ex_some hok
        have hok := hok.trans (congrArg some (hL4 _ he4))
        exact J71 y1_4 vW_4 H locs ls hP hD hS (lv_sub hl [0, 1] rfl) hok
      · have hok := k_neg c12 hok
        refine lv_iload_n hx hb dX6_passDamp_15 rfl (lv_at hl 2 rfl) ?_
        refine lv_bipush (v := 7) hx hb dX6_passDamp_16 (by decide) ?_
        refine lv_icmp_ge (tgt := 71) hx hb dX6_passDamp_18 (by decide) (fun c18 => ?_) (fun c18 => ?_)
        · have hok := k_pos c18 hok
          obtain ⟨e4, hok, he4⟩ := ex_some hok
          have hok := hok.trans (congrArg some (hL4 _ he4))
          exact J71 y1_4 vW_4 H locs ls hP hD hS (lv_sub hl [0, 1] rfl) hok
        · have hok := k_neg c18 hok
          refine lv_aload_n hx hb dX6_passDamp_21 rfl (lv_at hl 0 rfl) ?_
          refine lv_bipush (v := 75) hx hb dX6_passDamp_22 (by decide) ?_
          refine lv_aload_n hx hb dX6_passDamp_24 rfl (lv_at hl 0 rfl) ?_
          refine va_get (D := D) (ci := 5) (v := .int (vW_4 10)) (C := RX6) (T := TX6) (N := 13) hx hb ht0 niX6 hown hK hP 0 rfl rfl 10 (by decide) (ht0 _ wd473) (fun _ h9 => h9) rfl dX6_passDamp_25 ?_
          refine lv_imul hx hb dX6_passDamp_28 ?_
          refine lv_bipush (v := 74) hx hb dX6_passDamp_29 (by decide) ?_
          refine lv_iadd hx hb dX6_passDamp_31 ?_
          refine lv_ldc (v := 65537) hx hb hown (ht0 _ wd474) dX6_passDamp_32 ?_
          refine lv_irem hx hb dX6_passDamp_34 (by decide) ?_
          refine va_put (D := D) (ci := 5) (v := .int (irm (((75 : Int32) * (vW_4 10)) + (74 : Int32)) (65537 : Int32))) (ty := .int) (C := RX6) (T := TX6) (N := 13) hx hb ht0 niX6 tyX6 tyX6_ok nmX6 hown hK hP hD hS 0 rfl rfl 10 (by decide) (ht0 _ wd473) (fun _ h9 => h9) rfl (by decide +kernel) rfl rfl (Nat.le_of_ble_eq_true rfl) dX6_passDamp_35 (fun H locs hP hD hS => ?_)
          have hP : va_P D vwCl (wX6_passDamp cy aW qW aH qH (upd vW_4 10 (irm (((75 : Int32) * (vW_4 10)) + (74 : Int32)) (65537 : Int32))) vH vW_cells vH_next vW_who vW_inFront vH_sizes vH_width vH_kinds) H := hP
          have hD : va_D A (wX6_passDamp cy aW qW aH qH (upd vW_4 10 (irm (((75 : Int32) * (vW_4 10)) + (74 : Int32)) (65537 : Int32))) vH vW_cells vH_next vW_who vW_inFront vH_sizes vH_width vH_kinds) := hD
          refine lv_iload_n hx hb dX6_passDamp_38 rfl (lv_at hl 1 rfl) ?_
          refine lv_aload_n hx hb dX6_passDamp_39 rfl (lv_at hl 0 rfl) ?_
          refine va_get (D := D) (ci := 5) (v := .int (irm (((75 : Int32) * (vW_4 10)) + (74 : Int32)) (65537 : Int32))) (C := RX6) (T := TX6) (N := 13) hx hb ht0 niX6 hown hK hP 0 rfl rfl 10 (by decide) (ht0 _ wd473) (fun _ h9 => h9) rfl dX6_passDamp_40 ?_
          refine lv_bipush (v := 100) hx hb dX6_passDamp_43 (by decide) ?_
          refine lv_irem hx hb dX6_passDamp_45 (by decide) ?_
          refine lv_aload_n hx hb dX6_passDamp_46 rfl (lv_at hl 0 rfl) ?_
          refine va_get (D := D) (ci := 5) (v := .ref aH) (C := RX6) (T := TX6) (N := 13) hx hb ht0 niX6 hown hK hP 0 rfl rfl 4 (by decide) (ht0 _ wd101) (fun _ h9 => h9) rfl dX6_passDamp_47 ?_
          refine va_get (D := D) (ci := 3) (v := .int (vH 1)) (C := RX4) (T := TX4) (N := 20) hx hb ht0 niX4 hown hK hP 1 rfl rfl 1 (by decide) (ht0 _ wd475) (fun _ h9 => h9) rfl dX6_passDamp_50 ?_
          refine lv_icmp_ge (tgt := 62) hx hb dX6_passDamp_53 (by decide) (fun c53 => ?_) (fun c53 => ?_)
          · have hok := k_pos c53 hok
            refine lv_iconst (v := 0) hx hb dX6_passDamp_62 (by decide) ?_
            exact J63 (0 : Int32) H locs ls hP hD hS (lv_sub hl [0, 2] rfl) hok
          · have hok := k_neg c53 hok
            refine lv_iconst (v := 1) hx hb dX6_passDamp_56 (by decide) ?_
            refine lv_iload_n hx hb dX6_passDamp_57 rfl (lv_at hl 2 rfl) ?_
            refine lv_ishl hx hb dX6_passDamp_58 ?_
            refine lv_goto (tgt := 63) hx hb dX6_passDamp_59 (by decide) ?_
            exact J63 (isl (1 : Int32) y2_4) H locs ls hP hD hS (lv_sub hl [0, 2] rfl) hok
  unfold fX6_passDamp at hok
  obtain ⟨H, hH⟩ : ∃ H, H = s.heap := ⟨_, rfl⟩
  obtain ⟨locs, hlc⟩ : ∃ x : List Loc, x = [] := ⟨_, rfl⟩
  have hP : va_P D vwCl (wX6_passDamp cy aW qW aH qH vW vH vW_cells vH_next vW_who vW_inFront vH_sizes vH_width vH_kinds) H := by rw [hH]; exact hP
  have hS : va_S A s.heap H locs := by rw [hH, hlc]; exact hS
  rw [show W p l e _ s m _ below meth c s.heap [] = W p l e _ s m _ below meth c H locs from by rw [hH, hlc]]
  refine lv_iconst (v := 0) hx hb dX6_passDamp_0 (by decide) ?_
  refine lv_istore_n (lv' := [(1, .int 0), (0, .ref aW)]) hx hb dX6_passDamp_1 rfl hl (by decide) rfl (fun ls hl => ?_)
  refine lv_iconst (v := 0) hx hb dX6_passDamp_2 (by decide) ?_
  refine lv_istore_n (lv' := [(2, .int 0), (1, .int 0), (0, .ref aW)]) hx hb dX6_passDamp_3 rfl hl (by decide) rfl (fun ls hl => ?_)
  exact L4 5000 (0 : Int32) (0 : Int32) vW H locs ls hP hD hS (lv_sub hl [2, 1, 0] rfl) hok
def wsX6_isAsIn : List Cond := .code yX6_isAsIn cX6_isAsIn 3 (some .boolean) :: W0
abbrev wX6_isAsIn (cy : Nat → ClassId) (aW : Nat) (aD : Nat) (qW : Nat → Nat) (aH : Nat) (qH : Nat → Nat) (qD : Nat → Nat) (vW : Nat → Int32) (vH : Nat → Int32) (vW_cells : Nat → Int32) (vD : Nat → Int32) (vD_now : Nat → Int32) : va_W := [(aW, oX6 vW qW aH), (aH, oX4 vH qH), (qW 0, rI cy 7 vW_cells), (aD, oX1 vD qD), (qD 0, rI cy 9 vD_now)]
set_option maxHeartbeats 4000000 in
set_option maxRecDepth 100000 in
theorem kX6_isAsIn (l : Launch) (D : va_G) (cy : Nat → ClassId) (sz : Nat) (aW : Nat) (aD : Nat) (qW : Nat → Nat) (aH : Nat) (qH : Nat → Nat) (qD : Nat → Nat) (vW : Nat → Int32) (vH : Nat → Int32) (vW_cells : Nat → Int32) (vD : Nat → Int32) (vD_now : Nat → Int32) (zr : Int32) (hok : fX6_isAsIn vW vH vW_cells vD vD_now = some zr) (A : Nat → Prop) (hAe : va_A (wX6_isAsIn cy aW aD qW aH qH qD vW vH vW_cells vD vD_now) sz = A) : Met l yX6_isAsIn wsX6_isAsIn ({ frames := 1, cells := 0, slots := 0, locals := 21 } : Room) (kPre D cy [.ref aW, .ref aD] (wX6_isAsIn cy aW aD qW aH qH qD vW vH vW_cells vD vD_now) sz) (kQi D cy zr A (wX6_isAsIn cy aW aD qW aH qH qD vW vH vW_cells vD vD_now)) 0 0 A := by
  refine Met.ofW (cc := cX6_isAsIn) (maxL := 3) (ret := (some .boolean)) (by decide) rfl ?_
  intro p e s m args below meth c s₁ B hml hv
  obtain ⟨rfl, hsz, hP, hK, hD0, hN⟩ := hv
  have hx := B.exec
  have hb := B.bytes
  have hr := B.returns
  have ht0 : ∀ w ∈ W0, w.before _ s = true := fun w h => atoms_spec (ws := wsX6_isAsIn) B.pre w (List.mem_cons_of_mem _ h)
  have hown : s.vm.findClass RX6 = some m.cls := findClass_of_methodNamed B.named
  have hlocks := B.notSynchronized
  subst hsz
  have hD : va_D A (wX6_isAsIn cy aW aD qW aH qH qD vW vH vW_cells vD vD_now) := by rw [← hAe]; exact hD0.self
  have hA : ∀ q : Nat, s.heap.size ≤ q → A q := fun q h => by rw [← hAe]; exact Or.inr h
  have hS : va_S A s.heap s.heap [] := va_S.rf
  have hl := lv_entry ([.ref aW, .ref aD]) (n := 3) (Nat.le_of_ble_eq_true rfl)
  rw [lg_entry_eq]
  generalize (lg_sl ([.ref aW, .ref aD]) ++ List.replicate (3 - (lg_sl ([.ref aW, .ref aD])).length) Slot.unset).toArray = ls at hl ⊢
  have hl : lv_has ls 3 [(0, .ref aW), (1, .ref aD)] := hl
  generalize hQe : MQ below (kQi D cy zr A (wX6_isAsIn cy aW aD qW aH qH qD vW vH vW_cells vD vD_now)) ([.ref aW, .ref aD] : List Value).toArray s 0 0 A = Q
  have J41 : ∀ (H : Heap) (locs : List Loc) (ls : Array Slot), va_P D vwCl (wX6_isAsIn cy aW aD qW aH qH qD vW vH vW_cells vD vD_now) H → va_D A (wX6_isAsIn cy aW aD qW aH qH qD vW vH vW_cells vD vD_now) → va_S A s.heap H locs → lv_has ls 3 [] → fX6_isAsIn_J41 = some zr → W p l e ({ frames := 1, cells := 0, slots := 0, locals := 21 } : Room) s m ([.ref aW, .ref aD] : List Value).toArray below meth c H locs 0 0 Q (F0 m 41 ls []) := by
    intro  H locs ls hP hD hS hl hok
    unfold fX6_isAsIn_J41 at hok
    refine lv_iconst (v := 1) hx hb dX6_isAsIn_41 (by decide) ?_
    cases hok
    subst hQe; exact W.zret hx hb hr rfl (fun t ht hW => ⟨⟨_, (), rfl, rfl, by rw [ht]; exact hP, va_K.moved hW.alike hK, hD⟩, hS.F ht⟩) hS.2.2 dX6_isAsIn_42
  have L2 : ∀ (fuel : Nat) (y2_2 : Int32), ∀ (H : Heap) (locs : List Loc) (ls : Array Slot), va_P D vwCl (wX6_isAsIn cy aW aD qW aH qH qD vW vH vW_cells vD vD_now) H → va_D A (wX6_isAsIn cy aW aD qW aH qH qD vW vH vW_cells vD vD_now) → va_S A s.heap H locs → lv_has ls 3 [(0, .ref aW), (1, .ref aD), (2, .int y2_2)] → lp (fX6_isAsIn_B2 vH vW_cells vD vD_now) fuel y2_2 = some zr → W p l e ({ frames := 1, cells := 0, slots := 0, locals := 21 } : Room) s m ([.ref aW, .ref aD] : List Value).toArray below meth c H locs 0 0 Q (F0 m 2 ls []) := by
    intro fuel
    induction fuel with
    | zero => intro y2_2 H locs ls hP hD hS hl hok; exact (lp_0 hok).elim
    | succ fuel ih2 =>
      intro y2_2 H locs ls hP hD hS hl hok
      obtain ⟨y2, hok, hL2, hR2⟩ := lp_step hok
      unfold fX6_isAsIn_B2 at hok
      refine lv_iload_n hx hb dX6_isAsIn_2 rfl (lv_at hl 2 rfl) ?_
      refine lv_aload_n hx hb dX6_isAsIn_3 rfl (lv_at hl 0 rfl) ?_
      refine va_get (D := D) (ci := 5) (v := .ref aH) (C := RX6) (T := TX6) (N := 13) hx hb ht0 niX6 hown hK hP 0 rfl rfl 4 (by decide) (ht0 _ wd101) (fun _ h9 => h9) rfl dX6_isAsIn_4 ?_
      refine va_get (D := D) (ci := 3) (v := .int (vH 5)) (C := RX4) (T := TX4) (N := 20) hx hb ht0 niX4 hown hK hP 1 rfl rfl 5 (by decide) (ht0 _ wd107) (fun _ h9 => h9) rfl dX6_isAsIn_7 ?_
      refine lv_icmp_ge (tgt := 41) hx hb dX6_isAsIn_10 (by decide) (fun c10 => ?_) (fun c10 => ?_)
      · have hok := k_pos c10 hok
        obtain ⟨e2, hok, he2⟩ := ex_some hok
        have hok := hok.trans (congrArg some (hL2 _ he2))
        exact J41  H locs ls hP hD hS (lv_sub hl [] rfl) hok
      · have hok := k_neg c10 hok
        refine lv_iload_n hx hb dX6_isAsIn_13 rfl (lv_at hl 2 rfl) ?_
        refine lv_bipush (v := 7) hx hb dX6_isAsIn_14 (by decide) ?_
        refine lv_icmp_ge (tgt := 41) hx hb dX6_isAsIn_16 (by decide) (fun c16 => ?_) (fun c16 => ?_)
        · have hok := k_pos c16 hok
          obtain ⟨e2, hok, he2⟩ := ex_some hok
          have hok := hok.trans (congrArg some (hL2 _ he2))
          exact J41  H locs ls hP hD hS (lv_sub hl [] rfl) hok
        · have hok := k_neg c16 hok
          refine lv_aload_n hx hb dX6_isAsIn_19 rfl (lv_at hl 0 rfl) ?_
          refine va_get (D := D) (ci := 5) (v := .ref (qW 0)) (C := RX6) (T := TX6) (N := 13) hx hb ht0 niX6 hown hK hP 0 rfl rfl 0 (by decide) (ht0 _ wd110) (fun _ h9 => h9) rfl dX6_isAsIn_20 ?_
          refine lv_iload_n hx hb dX6_isAsIn_23 rfl (lv_at hl 2 rfl) ?_
          obtain ⟨g24, hok⟩ := gd_some hok
          refine va_iald hx hb hK hP 2 0 rfl rfl (okI_in g24) dX6_isAsIn_24 ?_
          refine lv_aload_n hx hb dX6_isAsIn_25 rfl (lv_at hl 1 rfl) ?_
          refine lv_iload_n hx hb dX6_isAsIn_26 rfl (lv_at hl 2 rfl) ?_
          obtain ⟨r27, hc27, hok⟩ := k_bind hok
          refine kCi (wc := (wX1_cellOf cy aD qD vD vD_now)) (wc2 := (wX1_cellOf cy aD qD vD vD_now)) (wr := [(aW, oX6 vW qW aH), (aH, oX4 vH qH), (qW 0, rI cy 7 vW_cells)]) (ws2 := (wX6_isAsIn cy aW aD qW aH qH qD vW vH vW_cells vD vD_now)) (kRunV (As := [.int y2_2]) (rest := [.int (vW_cells y2_2.toNatClampNeg)]) ⟨hx, hb, hml, hown, ht0⟩ (kX1_cellOf l D cy _ aD qD vD vD_now y2_2 r27 hc27 _ rfl) (cwV 1 ht0 (gV wd108 wd82 wd83 wd74 wd84) rfl rfl rfl (by decide +kernel) ⟨Nat.le_of_ble_eq_true rfl, Nat.le_of_ble_eq_true rfl⟩) hK hN hP hD [3, 4] rfl (by decide) 3 1 rfl rfl rfl hl.1 rfl (Nat.le_of_ble_eq_true rfl) dX6_isAsIn_27 ⟨Nat.zero_le _, Nat.zero_le _⟩) hP hD hS hA [3, 4] [0, 1, 2] rfl rfl (by decide) (by decide) [0, 1, 2, 3, 4] (by decide) rfl rfl (fun H locs hP hD hS => ?_)
          refine lv_icmp_eq (tgt := 35) hx hb dX6_isAsIn_30 (by decide) (fun c30 => ?_) (fun c30 => ?_)
          · have hok := k_pos c30 hok
            refine lv_iinc (v := (y2_2 + 1)) (lv' := [(2, .int (y2_2 + 1)), (0, .ref aW), (1, .ref aD)]) hx hb dX6_isAsIn_35 hl (k := 2) rfl (by first | rfl | decide) (by decide) rfl (fun ls hl => ?_)
            refine lv_goto (tgt := 2) hx hb dX6_isAsIn_38 (by decide) ?_
            exact ih2 (y2_2 + 1) H locs ls hP hD hS (lv_sub hl [1, 2, 0] rfl) (hR2 _ (Option.some.inj hok).symm)
          · have hok := k_neg c30 hok
            obtain ⟨e2, hok, he2⟩ := ex_some hok
            have hok := hok.trans (congrArg some (hL2 _ he2))
            refine lv_iconst (v := 0) hx hb dX6_isAsIn_33 (by decide) ?_
            cases hok
            subst hQe; exact W.zret hx hb hr rfl (fun t ht hW => ⟨⟨_, (), rfl, rfl, by rw [ht]; exact hP, va_K.moved hW.alike hK, hD⟩, hS.F ht⟩) hS.2.2 dX6_isAsIn_34
  unfold fX6_isAsIn at hok
  obtain ⟨H, hH⟩ : ∃ H, H = s.heap := ⟨_, rfl⟩
  obtain ⟨locs, hlc⟩ : ∃ x : List Loc, x = [] := ⟨_, rfl⟩
  have hP : va_P D vwCl (wX6_isAsIn cy aW aD qW aH qH qD vW vH vW_cells vD vD_now) H := by rw [hH]; exact hP
  have hS : va_S A s.heap H locs := by rw [hH, hlc]; exact hS
  rw [show W p l e _ s m _ below meth c s.heap [] = W p l e _ s m _ below meth c H locs from by rw [hH, hlc]]
  refine lv_iconst (v := 0) hx hb dX6_isAsIn_0 (by decide) ?_
  refine lv_istore_n (lv' := [(2, .int 0), (0, .ref aW), (1, .ref aD)]) hx hb dX6_isAsIn_1 rfl hl (by decide) rfl (fun ls hl => ?_)
  exact L2 5000 (0 : Int32) H locs ls hP hD hS (lv_sub hl [1, 2, 0] rfl) hok
def wsX6_pairAt : List Cond := .code yX6_pairAt cX6_pairAt 4 (some .int) :: W0
abbrev wX6_pairAt (cy : Nat → ClassId) (aW : Nat) (qW : Nat → Nat) (aH : Nat) (qH : Nat → Nat) (vW : Nat → Int32) (vH : Nat → Int32) (vH_doorOne : Nat → Int32) (vH_doorTwo : Nat → Int32) (vW_who : Nat → Int32) : va_W := [(aW, oX6 vW qW aH), (aH, oX4 vH qH), (qH 12, rI cy 5 vH_doorOne), (qH 13, rI cy 5 vH_doorTwo), (qW 1, rI cy 36 vW_who)]
set_option maxHeartbeats 4000000 in
set_option maxRecDepth 100000 in
theorem kX6_pairAt (l : Launch) (D : va_G) (cy : Nat → ClassId) (sz : Nat) (aW : Nat) (qW : Nat → Nat) (aH : Nat) (qH : Nat → Nat) (vW : Nat → Int32) (vH : Nat → Int32) (vH_doorOne : Nat → Int32) (vH_doorTwo : Nat → Int32) (vW_who : Nat → Int32) (x1 : Int32) (zr : Int32) (hok : fX6_pairAt vW vH vH_doorOne vH_doorTwo vW_who x1 = some zr) (A : Nat → Prop) (hAe : va_A (wX6_pairAt cy aW qW aH qH vW vH vH_doorOne vH_doorTwo vW_who) sz = A) : Met l yX6_pairAt wsX6_pairAt ({ frames := 1, cells := 0, slots := 0, locals := 22 } : Room) (kPre D cy [.ref aW, .int x1] (wX6_pairAt cy aW qW aH qH vW vH vH_doorOne vH_doorTwo vW_who) sz) (kQi D cy zr A (wX6_pairAt cy aW qW aH qH vW vH vH_doorOne vH_doorTwo vW_who)) 0 0 A := by
  refine Met.ofW (cc := cX6_pairAt) (maxL := 4) (ret := (some .int)) (by decide) rfl ?_
  intro p e s m args below meth c s₁ B hml hv
  obtain ⟨rfl, hsz, hP, hK, hD0, hN⟩ := hv
  have hx := B.exec
  have hb := B.bytes
  have hr := B.returns
  have ht0 : ∀ w ∈ W0, w.before _ s = true := fun w h => atoms_spec (ws := wsX6_pairAt) B.pre w (List.mem_cons_of_mem _ h)
  have hown : s.vm.findClass RX6 = some m.cls := findClass_of_methodNamed B.named
  have hlocks := B.notSynchronized
  subst hsz
  have hD : va_D A (wX6_pairAt cy aW qW aH qH vW vH vH_doorOne vH_doorTwo vW_who) := by rw [← hAe]; exact hD0.self
  have hA : ∀ q : Nat, s.heap.size ≤ q → A q := fun q h => by rw [← hAe]; exact Or.inr h
  have hS : va_S A s.heap s.heap [] := va_S.rf
  have hl := lv_entry ([.ref aW, .int x1]) (n := 4) (Nat.le_of_ble_eq_true rfl)
  rw [lg_entry_eq]
  generalize (lg_sl ([.ref aW, .int x1]) ++ List.replicate (4 - (lg_sl ([.ref aW, .int x1])).length) Slot.unset).toArray = ls at hl ⊢
  have hl : lv_has ls 4 [(0, .ref aW), (1, .int x1)] := hl
  generalize hQe : MQ below (kQi D cy zr A (wX6_pairAt cy aW qW aH qH vW vH vH_doorOne vH_doorTwo vW_who)) ([.ref aW, .int x1] : List Value).toArray s 0 0 A = Q
  have J36 : ∀ (H : Heap) (locs : List Loc) (ls : Array Slot), va_P D vwCl (wX6_pairAt cy aW qW aH qH vW vH vH_doorOne vH_doorTwo vW_who) H → va_D A (wX6_pairAt cy aW qW aH qH vW vH vH_doorOne vH_doorTwo vW_who) → va_S A s.heap H locs → lv_has ls 4 [] → fX6_pairAt_J36 = some zr → W p l e ({ frames := 1, cells := 0, slots := 0, locals := 22 } : Room) s m ([.ref aW, .int x1] : List Value).toArray below meth c H locs 0 0 Q (F0 m 36 ls []) := by
    intro  H locs ls hP hD hS hl hok
    unfold fX6_pairAt_J36 at hok
    refine lv_bipush (v := -2) hx hb dX6_pairAt_36 (by decide) ?_
    cases hok
    subst hQe; exact W.iret hx hb hr (fun t ht hW => ⟨⟨_, (), rfl, rfl, by rw [ht]; exact hP, va_K.moved hW.alike hK, hD⟩, hS.F ht⟩) hS.2.2 dX6_pairAt_38
  unfold fX6_pairAt at hok
  obtain ⟨H, hH⟩ : ∃ H, H = s.heap := ⟨_, rfl⟩
  obtain ⟨locs, hlc⟩ : ∃ x : List Loc, x = [] := ⟨_, rfl⟩
  have hP : va_P D vwCl (wX6_pairAt cy aW qW aH qH vW vH vH_doorOne vH_doorTwo vW_who) H := by rw [hH]; exact hP
  have hS : va_S A s.heap H locs := by rw [hH, hlc]; exact hS
  rw [show W p l e _ s m _ below meth c s.heap [] = W p l e _ s m _ below meth c H locs from by rw [hH, hlc]]
  refine lv_aload_n hx hb dX6_pairAt_0 rfl (lv_at hl 0 rfl) ?_
  refine lv_aload_n hx hb dX6_pairAt_1 rfl (lv_at hl 0 rfl) ?_
  refine va_get (D := D) (ci := 5) (v := .ref aH) (C := RX6) (T := TX6) (N := 13) hx hb ht0 niX6 hown hK hP 0 rfl rfl 4 (by decide) (ht0 _ wd101) (fun _ h9 => h9) rfl dX6_pairAt_2 ?_
  refine lv_iload_n hx hb dX6_pairAt_5 rfl (lv_at hl 1 rfl) ?_
  refine lv_iconst (v := 0) hx hb dX6_pairAt_6 (by decide) ?_
  obtain ⟨r7, hc7, hok⟩ := k_bind hok
  refine kCi (wc := (wX4_doorSide cy aH qH vH vH_doorOne vH_doorTwo)) (wc2 := (wX4_doorSide cy aH qH vH vH_doorOne vH_doorTwo)) (wr := [(aW, oX6 vW qW aH), (qW 1, rI cy 36 vW_who)]) (ws2 := (wX6_pairAt cy aW qW aH qH vW vH vH_doorOne vH_doorTwo vW_who)) (kRunV (As := [.int x1, .int 0]) (rest := [.ref aW]) ⟨hx, hb, hml, hown, ht0⟩ (kX4_doorSide l D cy _ aH qH vH vH_doorOne vH_doorTwo x1 (0 : Int32) r7 hc7 _ rfl) (cwV 2 ht0 (gV wd476 wd477 wd478 wd9 wd479) rfl rfl rfl (by decide +kernel) ⟨Nat.le_of_ble_eq_true rfl, Nat.le_of_ble_eq_true rfl⟩) hK hN hP hD [1, 2, 3] rfl (by decide) 1 3 rfl rfl rfl hl.1 rfl (Nat.le_of_ble_eq_true rfl) dX6_pairAt_7 ⟨Nat.zero_le _, Nat.zero_le _⟩) hP hD hS hA [1, 2, 3] [0, 4] rfl rfl (by decide) (by decide) [0, 2, 3, 4, 1] (by decide) rfl rfl (fun H locs hP hD hS => ?_)
  obtain ⟨r10, hc10, hok⟩ := k_bind hok
  refine kCi (wc := (wX6_thingAt cy aW qW aH vW vW_who)) (wc2 := (wX6_thingAt cy aW qW aH vW vW_who)) (wr := [(aH, oX4 vH qH), (qH 12, rI cy 5 vH_doorOne), (qH 13, rI cy 5 vH_doorTwo)]) (ws2 := (wX6_pairAt cy aW qW aH qH vW vH vH_doorOne vH_doorTwo vW_who)) (kRunV (As := [.int r7]) (rest := []) ⟨hx, hb, hml, hown, ht0⟩ (kX6_thingAt l D cy _ aW qW aH vW vW_who r7 r10 hc10 _ rfl) (cwV 1 ht0 (gV wd142 wd143 wd144 wd114 wd145) rfl rfl rfl (by decide +kernel) ⟨Nat.le_of_ble_eq_true rfl, Nat.le_of_ble_eq_true rfl⟩) hK hN hP hD [0, 4] rfl (by decide) 0 5 rfl rfl rfl hl.1 rfl (Nat.le_of_ble_eq_true rfl) dX6_pairAt_10 ⟨Nat.zero_le _, Nat.zero_le _⟩) hP hD hS hA [0, 4] [1, 2, 3] rfl rfl (by decide) (by decide) [3, 0, 1, 2, 4] (by decide) rfl rfl (fun H locs hP hD hS => ?_)
  refine lv_istore_n (lv' := [(2, .int r10), (0, .ref aW), (1, .int x1)]) hx hb dX6_pairAt_13 rfl hl (by decide) rfl (fun ls hl => ?_)
  refine lv_aload_n hx hb dX6_pairAt_14 rfl (lv_at hl 1 rfl) ?_
  refine lv_aload_n hx hb dX6_pairAt_15 rfl (lv_at hl 1 rfl) ?_
  refine va_get (D := D) (ci := 5) (v := .ref aH) (C := RX6) (T := TX6) (N := 13) hx hb ht0 niX6 hown hK hP 0 rfl rfl 4 (by decide) (ht0 _ wd101) (fun _ h9 => h9) rfl dX6_pairAt_16 ?_
  refine lv_iload_n hx hb dX6_pairAt_19 rfl (lv_at hl 2 rfl) ?_
  refine lv_iconst (v := 1) hx hb dX6_pairAt_20 (by decide) ?_
  obtain ⟨r21, hc21, hok⟩ := k_bind hok
  refine kCi (wc := (wX4_doorSide cy aH qH vH vH_doorOne vH_doorTwo)) (wc2 := (wX4_doorSide cy aH qH vH vH_doorOne vH_doorTwo)) (wr := [(aW, oX6 vW qW aH), (qW 1, rI cy 36 vW_who)]) (ws2 := (wX6_pairAt cy aW qW aH qH vW vH vH_doorOne vH_doorTwo vW_who)) (kRunV (As := [.int x1, .int 1]) (rest := [.ref aW]) ⟨hx, hb, hml, hown, ht0⟩ (kX4_doorSide l D cy _ aH qH vH vH_doorOne vH_doorTwo x1 (1 : Int32) r21 hc21 _ rfl) (cwV 2 ht0 (gV wd476 wd477 wd478 wd9 wd479) rfl rfl rfl (by decide +kernel) ⟨Nat.le_of_ble_eq_true rfl, Nat.le_of_ble_eq_true rfl⟩) hK hN hP hD [1, 2, 3] rfl (by decide) 1 3 rfl rfl rfl hl.1 rfl (Nat.le_of_ble_eq_true rfl) dX6_pairAt_21 ⟨Nat.zero_le _, Nat.zero_le _⟩) hP hD hS hA [1, 2, 3] [0, 4] rfl rfl (by decide) (by decide) [0, 2, 3, 4, 1] (by decide) rfl rfl (fun H locs hP hD hS => ?_)
  obtain ⟨r24, hc24, hok⟩ := k_bind hok
  refine kCi (wc := (wX6_thingAt cy aW qW aH vW vW_who)) (wc2 := (wX6_thingAt cy aW qW aH vW vW_who)) (wr := [(aH, oX4 vH qH), (qH 12, rI cy 5 vH_doorOne), (qH 13, rI cy 5 vH_doorTwo)]) (ws2 := (wX6_pairAt cy aW qW aH qH vW vH vH_doorOne vH_doorTwo vW_who)) (kRunV (As := [.int r21]) (rest := []) ⟨hx, hb, hml, hown, ht0⟩ (kX6_thingAt l D cy _ aW qW aH vW vW_who r21 r24 hc24 _ rfl) (cwV 1 ht0 (gV wd142 wd143 wd144 wd114 wd145) rfl rfl rfl (by decide +kernel) ⟨Nat.le_of_ble_eq_true rfl, Nat.le_of_ble_eq_true rfl⟩) hK hN hP hD [0, 4] rfl (by decide) 0 5 rfl rfl rfl hl.1 rfl (Nat.le_of_ble_eq_true rfl) dX6_pairAt_24 ⟨Nat.zero_le _, Nat.zero_le _⟩) hP hD hS hA [0, 4] [1, 2, 3] rfl rfl (by decide) (by decide) [3, 0, 1, 2, 4] (by decide) rfl rfl (fun H locs hP hD hS => ?_)
  refine lv_istore_n (lv' := [(3, .int r24), (2, .int r10), (0, .ref aW), (1, .int x1)]) hx hb dX6_pairAt_27 rfl hl (by decide) rfl (fun ls hl => ?_)
  refine lv_iload_n hx hb dX6_pairAt_28 rfl (lv_at hl 1 rfl) ?_
  refine lv_if_lt (tgt := 36) hx hb dX6_pairAt_29 (by decide) (fun c29 => ?_) (fun c29 => ?_)
  · have hok := k_pos c29 hok
    exact J36  H locs ls hP hD hS (lv_sub hl [] rfl) hok
  · have hok := k_neg c29 hok
    refine lv_iload_n hx hb dX6_pairAt_32 rfl (lv_at hl 0 rfl) ?_
    refine lv_if_ge (tgt := 39) hx hb dX6_pairAt_33 (by decide) (fun c33 => ?_) (fun c33 => ?_)
    · have hok := k_pos c33 hok
      refine lv_bipush (v := 10) hx hb dX6_pairAt_39 (by decide) ?_
      refine lv_iload_n hx hb dX6_pairAt_41 rfl (lv_at hl 1 rfl) ?_
      refine lv_iload_n hx hb dX6_pairAt_42 rfl (lv_at hl 0 rfl) ?_
      refine va_mmin hx hb (hml.trans hl.1.symm) hown (ht0 _ wd480) (ht0 _ wd481) (ht0 _ wd37) (ht0 _ wd482) (Nat.le_of_ble_eq_true rfl) (Nat.le_of_ble_eq_true rfl) (Nat.zero_le _) (Nat.zero_le _) dX6_pairAt_43 ?_
      refine lv_imul hx hb dX6_pairAt_46 ?_
      refine lv_iload_n hx hb dX6_pairAt_47 rfl (lv_at hl 1 rfl) ?_
      refine lv_iload_n hx hb dX6_pairAt_48 rfl (lv_at hl 0 rfl) ?_
      refine va_mmax hx hb (hml.trans hl.1.symm) hown (ht0 _ wd483) (ht0 _ wd36) (ht0 _ wd37) (ht0 _ wd38) (Nat.le_of_ble_eq_true rfl) (Nat.le_of_ble_eq_true rfl) (Nat.zero_le _) (Nat.zero_le _) dX6_pairAt_49 ?_
      refine lv_iadd hx hb dX6_pairAt_52 ?_
      cases hok
      subst hQe; exact W.iret hx hb hr (fun t ht hW => ⟨⟨_, (), rfl, rfl, by rw [ht]; exact hP, va_K.moved hW.alike hK, hD⟩, hS.F ht⟩) hS.2.2 dX6_pairAt_53
    · have hok := k_neg c33 hok
      exact J36  H locs ls hP hD hS (lv_sub hl [] rfl) hok
def wsX6_firstPair : List Cond := .code yX6_firstPair cX6_firstPair 4 (some .int) :: W0
abbrev wX6_firstPair (cy : Nat → ClassId) (aW : Nat) (qW : Nat → Nat) (aH : Nat) (qH : Nat → Nat) (vW : Nat → Int32) (vH : Nat → Int32) (vH_doorOne : Nat → Int32) (vH_doorTwo : Nat → Int32) (vW_who : Nat → Int32) : va_W := [(aW, oX6 vW qW aH), (aH, oX4 vH qH), (qH 12, rI cy 5 vH_doorOne), (qH 13, rI cy 5 vH_doorTwo), (qW 1, rI cy 36 vW_who)]
set_option maxHeartbeats 4000000 in
set_option maxRecDepth 100000 in
theorem kX6_firstPair (l : Launch) (D : va_G) (cy : Nat → ClassId) (sz : Nat) (aW : Nat) (qW : Nat → Nat) (aH : Nat) (qH : Nat → Nat) (vW : Nat → Int32) (vH : Nat → Int32) (vH_doorOne : Nat → Int32) (vH_doorTwo : Nat → Int32) (vW_who : Nat → Int32) (zr : Int32) (hok : fX6_firstPair vW vH vH_doorOne vH_doorTwo vW_who = some zr) (A : Nat → Prop) (hAe : va_A (wX6_firstPair cy aW qW aH qH vW vH vH_doorOne vH_doorTwo vW_who) sz = A) : Met l yX6_firstPair wsX6_firstPair ({ frames := 2, cells := 0, slots := 0, locals := 45 } : Room) (kPre D cy [.ref aW] (wX6_firstPair cy aW qW aH qH vW vH vH_doorOne vH_doorTwo vW_who) sz) (kQi D cy zr A (wX6_firstPair cy aW qW aH qH vW vH vH_doorOne vH_doorTwo vW_who)) 0 0 A := by
  refine Met.ofW (cc := cX6_firstPair) (maxL := 4) (ret := (some .int)) (by decide) rfl ?_
  intro p e s m args below meth c s₁ B hml hv
  obtain ⟨rfl, hsz, hP, hK, hD0, hN⟩ := hv
  have hx := B.exec
  have hb := B.bytes
  have hr := B.returns
  have ht0 : ∀ w ∈ W0, w.before _ s = true := fun w h => atoms_spec (ws := wsX6_firstPair) B.pre w (List.mem_cons_of_mem _ h)
  have hown : s.vm.findClass RX6 = some m.cls := findClass_of_methodNamed B.named
  have hlocks := B.notSynchronized
  subst hsz
  have hD : va_D A (wX6_firstPair cy aW qW aH qH vW vH vH_doorOne vH_doorTwo vW_who) := by rw [← hAe]; exact hD0.self
  have hA : ∀ q : Nat, s.heap.size ≤ q → A q := fun q h => by rw [← hAe]; exact Or.inr h
  have hS : va_S A s.heap s.heap [] := va_S.rf
  have hl := lv_entry ([.ref aW]) (n := 4) (Nat.le_of_ble_eq_true rfl)
  rw [lg_entry_eq]
  generalize (lg_sl ([.ref aW]) ++ List.replicate (4 - (lg_sl ([.ref aW])).length) Slot.unset).toArray = ls at hl ⊢
  have hl : lv_has ls 4 [(0, .ref aW)] := hl
  generalize hQe : MQ below (kQi D cy zr A (wX6_firstPair cy aW qW aH qH vW vH vH_doorOne vH_doorTwo vW_who)) ([.ref aW] : List Value).toArray s 0 0 A = Q
  have L5 : ∀ (fuel : Nat) (y1_5 : Int32) (y2_5 : Int32), ∀ (H : Heap) (locs : List Loc) (ls : Array Slot), va_P D vwCl (wX6_firstPair cy aW qW aH qH vW vH vH_doorOne vH_doorTwo vW_who) H → va_D A (wX6_firstPair cy aW qW aH qH vW vH vH_doorOne vH_doorTwo vW_who) → va_S A s.heap H locs → lv_has ls 4 [(0, .ref aW), (1, .int y1_5), (2, .int y2_5)] → lp (fX6_firstPair_B5 vW vH vH_doorOne vH_doorTwo vW_who) fuel (y1_5, y2_5) = some zr → W p l e ({ frames := 2, cells := 0, slots := 0, locals := 45 } : Room) s m ([.ref aW] : List Value).toArray below meth c H locs 0 0 Q (F0 m 5 ls []) := by
    intro fuel
    induction fuel with
    | zero => intro y1_5 y2_5 H locs ls hP hD hS hl hok; exact (lp_0 hok).elim
    | succ fuel ih5 =>
      intro y1_5 y2_5 H locs ls hP hD hS hl hok
      obtain ⟨y5, hok, hL5, hR5⟩ := lp_step hok
      have J39 : ∀ (y1_39 : Int32), ∀ (H : Heap) (locs : List Loc) (ls : Array Slot), va_P D vwCl (wX6_firstPair cy aW qW aH qH vW vH vH_doorOne vH_doorTwo vW_who) H → va_D A (wX6_firstPair cy aW qW aH qH vW vH vH_doorOne vH_doorTwo vW_who) → va_S A s.heap H locs → lv_has ls 4 [(0, .ref aW), (1, .int y1_39), (2, .int y2_5)] → fX6_firstPair_J39 y2_5 y1_39 = some y5 → W p l e ({ frames := 2, cells := 0, slots := 0, locals := 45 } : Room) s m ([.ref aW] : List Value).toArray below meth c H locs 0 0 Q (F0 m 39 ls []) := by
        intro y1_39 H locs ls hP hD hS hl hok
        unfold fX6_firstPair_J39 at hok
        refine lv_iinc (v := (y2_5 + 1)) (lv' := [(2, .int (y2_5 + 1)), (0, .ref aW), (1, .int y1_39)]) hx hb dX6_firstPair_39 hl (k := 2) rfl (by first | rfl | decide) (by decide) rfl (fun ls hl => ?_)
        refine lv_goto (tgt := 5) hx hb dX6_firstPair_42 (by decide) ?_
        exact ih5 y1_39 (y2_5 + 1) H locs ls hP hD hS (lv_sub hl [1, 2, 0] rfl) (hR5 _ (Option.some.inj hok).symm)
      have J37 : ∀ (y3_37 : Int32), ∀ (H : Heap) (locs : List Loc) (ls : Array Slot), va_P D vwCl (wX6_firstPair cy aW qW aH qH vW vH vH_doorOne vH_doorTwo vW_who) H → va_D A (wX6_firstPair cy aW qW aH qH vW vH vH_doorOne vH_doorTwo vW_who) → va_S A s.heap H locs → lv_has ls 4 [(0, .ref aW), (2, .int y2_5), (3, .int y3_37)] → fX6_firstPair_J37 y2_5 y3_37 = some y5 → W p l e ({ frames := 2, cells := 0, slots := 0, locals := 45 } : Room) s m ([.ref aW] : List Value).toArray below meth c H locs 0 0 Q (F0 m 37 ls []) := by
        intro y3_37 H locs ls hP hD hS hl hok
        unfold fX6_firstPair_J37 at hok
        refine lv_iload_n hx hb dX6_firstPair_37 rfl (lv_at hl 2 rfl) ?_
        refine lv_istore_n (lv' := [(1, .int y3_37), (0, .ref aW), (2, .int y2_5), (3, .int y3_37)]) hx hb dX6_firstPair_38 rfl hl (by decide) rfl (fun ls hl => ?_)
        exact J39 y3_37 H locs ls hP hD hS (lv_sub hl [1, 0, 2] rfl) hok
      unfold fX6_firstPair_B5 at hok
      try dsimp only at hok
      refine lv_iload_n hx hb dX6_firstPair_5 rfl (lv_at hl 2 rfl) ?_
      refine lv_aload_n hx hb dX6_firstPair_6 rfl (lv_at hl 0 rfl) ?_
      refine va_get (D := D) (ci := 5) (v := .ref aH) (C := RX6) (T := TX6) (N := 13) hx hb ht0 niX6 hown hK hP 0 rfl rfl 4 (by decide) (ht0 _ wd101) (fun _ h9 => h9) rfl dX6_firstPair_7 ?_
      refine va_get (D := D) (ci := 3) (v := .int (vH 4)) (C := RX4) (T := TX4) (N := 20) hx hb ht0 niX4 hown hK hP 1 rfl rfl 4 (by decide) (ht0 _ wd484) (fun _ h9 => h9) rfl dX6_firstPair_10 ?_
      refine lv_icmp_ge (tgt := 45) hx hb dX6_firstPair_13 (by decide) (fun c13 => ?_) (fun c13 => ?_)
      · have hok := k_pos c13 hok
        obtain ⟨e5, hok, he5⟩ := ex_some hok
        have hok := hok.trans (congrArg some (hL5 _ he5))
        refine lv_iload_n hx hb dX6_firstPair_45 rfl (lv_at hl 1 rfl) ?_
        cases hok
        subst hQe; exact W.iret hx hb hr (fun t ht hW => ⟨⟨_, (), rfl, rfl, by rw [ht]; exact hP, va_K.moved hW.alike hK, hD⟩, hS.F ht⟩) hS.2.2 dX6_firstPair_46
      · have hok := k_neg c13 hok
        refine lv_aload_n hx hb dX6_firstPair_16 rfl (lv_at hl 0 rfl) ?_
        refine lv_iload_n hx hb dX6_firstPair_17 rfl (lv_at hl 2 rfl) ?_
        obtain ⟨r18, hc18, hok⟩ := k_bind hok
        refine kCi (wc := (wX6_pairAt cy aW qW aH qH vW vH vH_doorOne vH_doorTwo vW_who)) (wc2 := (wX6_pairAt cy aW qW aH qH vW vH vH_doorOne vH_doorTwo vW_who)) (wr := []) (ws2 := (wX6_firstPair cy aW qW aH qH vW vH vH_doorOne vH_doorTwo vW_who)) (kRunV (As := [.int y2_5]) (rest := []) ⟨hx, hb, hml, hown, ht0⟩ (kX6_pairAt l D cy _ aW qW aH qH vW vH vH_doorOne vH_doorTwo vW_who y2_5 r18 hc18 _ rfl) (cwV 1 ht0 (gV wd485 wd486 wd487 wd114 wd488) rfl rfl rfl (by decide +kernel) ⟨Nat.le_of_ble_eq_true rfl, Nat.le_of_ble_eq_true rfl⟩) hK hN hP hD [0, 1, 2, 3, 4] rfl (by decide) 0 5 rfl rfl rfl hl.1 rfl (Nat.le_of_ble_eq_true rfl) dX6_firstPair_18 ⟨Nat.zero_le _, Nat.zero_le _⟩) hP hD hS hA [0, 1, 2, 3, 4] [] rfl rfl (by decide) (by decide) [0, 1, 2, 3, 4] (by decide) rfl rfl (fun H locs hP hD hS => ?_)
        refine lv_istore_n (lv' := [(3, .int r18), (0, .ref aW), (1, .int y1_5), (2, .int y2_5)]) hx hb dX6_firstPair_21 rfl hl (by decide) rfl (fun ls hl => ?_)
        refine lv_iload_n hx hb dX6_firstPair_22 rfl (lv_at hl 0 rfl) ?_
        refine lv_if_lt (tgt := 39) hx hb dX6_firstPair_23 (by decide) (fun c23 => ?_) (fun c23 => ?_)
        · have hok := k_pos c23 hok
          exact J39 y1_5 H locs ls hP hD hS (lv_sub hl [1, 2, 3] rfl) hok
        · have hok := k_neg c23 hok
          refine lv_iload_n hx hb dX6_firstPair_26 rfl (lv_at hl 2 rfl) ?_
          refine lv_bipush (v := -2) hx hb dX6_firstPair_27 (by decide) ?_
          refine lv_icmp_eq (tgt := 37) hx hb dX6_firstPair_29 (by decide) (fun c29 => ?_) (fun c29 => ?_)
          · have hok := k_pos c29 hok
            exact J37 r18 H locs ls hP hD hS (lv_sub hl [1, 3, 0] rfl) hok
          · have hok := k_neg c29 hok
            refine lv_iload_n hx hb dX6_firstPair_32 rfl (lv_at hl 0 rfl) ?_
            refine lv_iload_n hx hb dX6_firstPair_33 rfl (lv_at hl 2 rfl) ?_
            refine lv_icmp_ge (tgt := 39) hx hb dX6_firstPair_34 (by decide) (fun c34 => ?_) (fun c34 => ?_)
            · have hok := k_pos c34 hok
              exact J39 y1_5 H locs ls hP hD hS (lv_sub hl [1, 2, 3] rfl) hok
            · have hok := k_neg c34 hok
              exact J37 r18 H locs ls hP hD hS (lv_sub hl [1, 3, 0] rfl) hok
  unfold fX6_firstPair at hok
  obtain ⟨H, hH⟩ : ∃ H, H = s.heap := ⟨_, rfl⟩
  obtain ⟨locs, hlc⟩ : ∃ x : List Loc, x = [] := ⟨_, rfl⟩
  have hP : va_P D vwCl (wX6_firstPair cy aW qW aH qH vW vH vH_doorOne vH_doorTwo vW_who) H := by rw [hH]; exact hP
  have hS : va_S A s.heap H locs := by rw [hH, hlc]; exact hS
  rw [show W p l e _ s m _ below meth c s.heap [] = W p l e _ s m _ below meth c H locs from by rw [hH, hlc]]
  refine lv_bipush (v := -2) hx hb dX6_firstPair_0 (by decide) ?_
  refine lv_istore_n (lv' := [(1, .int (-2)), (0, .ref aW)]) hx hb dX6_firstPair_2 rfl hl (by decide) rfl (fun ls hl => ?_)
  refine lv_iconst (v := 0) hx hb dX6_firstPair_3 (by decide) ?_
  refine lv_istore_n (lv' := [(2, .int 0), (1, .int (-2)), (0, .ref aW)]) hx hb dX6_firstPair_4 rfl hl (by decide) rfl (fun ls hl => ?_)
  exact L5 5000 (-2 : Int32) (0 : Int32) H locs ls hP hD hS (lv_sub hl [2, 1, 0] rfl) hok
def wsX6_mostPair : List Cond := .code yX6_mostPair cX6_mostPair 5 (some .int) :: W0
abbrev wX6_mostPair (cy : Nat → ClassId) (aW : Nat) (qW : Nat → Nat) (aH : Nat) (qH : Nat → Nat) (vW : Nat → Int32) (vW_pairs : Nat → Int32) (vH : Nat → Int32) (vW_cells : Nat → Int32) (vH_next : Nat → Int32) (vW_who : Nat → Int32) (vW_inFront : Nat → Int32) (vH_sizes : Nat → Int32) (vH_width : Nat → Int32) (vH_kinds : Nat → Int32) (vH_doorOne : Nat → Int32) (vH_doorTwo : Nat → Int32) : va_W := [(aW, oX6 vW qW aH), (qW 3, rI cy 70 vW_pairs), (aH, oX4 vH qH), (qW 0, rI cy 7 vW_cells), (qH 10, rI cy 36 vH_next), (qW 1, rI cy 36 vW_who), (qW 2, rI cy 7 vW_inFront), (qH 15, rI cy 7 vH_sizes), (qH 11, rI cy 36 vH_width), (qH 14, rI cy 7 vH_kinds), (qH 12, rI cy 5 vH_doorOne), (qH 13, rI cy 5 vH_doorTwo)]
set_option maxHeartbeats 4000000 in
set_option maxRecDepth 100000 in
theorem kX6_mostPair (l : Launch) (D : va_G) (cy : Nat → ClassId) (sz : Nat) (aW : Nat) (qW : Nat → Nat) (aH : Nat) (qH : Nat → Nat) (vW : Nat → Int32) (vW_pairs : Nat → Int32) (vH : Nat → Int32) (vW_cells : Nat → Int32) (vH_next : Nat → Int32) (vW_who : Nat → Int32) (vW_inFront : Nat → Int32) (vH_sizes : Nat → Int32) (vH_width : Nat → Int32) (vH_kinds : Nat → Int32) (vH_doorOne : Nat → Int32) (vH_doorTwo : Nat → Int32) (x1 : Int32) (zr : Int32) (z_vW : Nat → Int32) (z_vW_pairs : Nat → Int32) (z_vW_cells : Nat → Int32) (z_vW_who : Nat → Int32) (z_vW_inFront : Nat → Int32) (hok : fX6_mostPair vW vW_pairs vH vW_cells vH_next vW_who vW_inFront vH_sizes vH_width vH_kinds vH_doorOne vH_doorTwo x1 = some (zr, z_vW, z_vW_pairs, z_vW_cells, z_vW_who, z_vW_inFront)) (A : Nat → Prop) (hAe : va_A (wX6_mostPair cy aW qW aH qH vW vW_pairs vH vW_cells vH_next vW_who vW_inFront vH_sizes vH_width vH_kinds vH_doorOne vH_doorTwo) sz = A) : Met l yX6_mostPair wsX6_mostPair ({ frames := 3, cells := 0, slots := 0, locals := 73 } : Room) (kPre D cy [.ref aW, .int x1] (wX6_mostPair cy aW qW aH qH vW vW_pairs vH vW_cells vH_next vW_who vW_inFront vH_sizes vH_width vH_kinds vH_doorOne vH_doorTwo) sz) (kQi D cy zr A (wX6_mostPair cy aW qW aH qH z_vW z_vW_pairs vH z_vW_cells vH_next z_vW_who z_vW_inFront vH_sizes vH_width vH_kinds vH_doorOne vH_doorTwo)) 0 0 A := by
  refine Met.ofW (cc := cX6_mostPair) (maxL := 5) (ret := (some .int)) (by decide) rfl ?_
  intro p e s m args below meth c s₁ B hml hv
  obtain ⟨rfl, hsz, hP, hK, hD0, hN⟩ := hv
  have hx := B.exec
  have hb := B.bytes
  have hr := B.returns
  have ht0 : ∀ w ∈ W0, w.before _ s = true := fun w h => atoms_spec (ws := wsX6_mostPair) B.pre w (List.mem_cons_of_mem _ h)
  have hown : s.vm.findClass RX6 = some m.cls := findClass_of_methodNamed B.named
  have hlocks := B.notSynchronized
  subst hsz
  have hD : va_D A (wX6_mostPair cy aW qW aH qH vW vW_pairs vH vW_cells vH_next vW_who vW_inFront vH_sizes vH_width vH_kinds vH_doorOne vH_doorTwo) := by rw [← hAe]; exact hD0.self
  have hA : ∀ q : Nat, s.heap.size ≤ q → A q := fun q h => by rw [← hAe]; exact Or.inr h
  have hS : va_S A s.heap s.heap [] := va_S.rf
  have hl := lv_entry ([.ref aW, .int x1]) (n := 5) (Nat.le_of_ble_eq_true rfl)
  rw [lg_entry_eq]
  generalize (lg_sl ([.ref aW, .int x1]) ++ List.replicate (5 - (lg_sl ([.ref aW, .int x1])).length) Slot.unset).toArray = ls at hl ⊢
  have hl : lv_has ls 5 [(0, .ref aW), (1, .int x1)] := hl
  generalize hQe : MQ below (kQi D cy zr A (wX6_mostPair cy aW qW aH qH z_vW z_vW_pairs vH z_vW_cells vH_next z_vW_who z_vW_inFront vH_sizes vH_width vH_kinds vH_doorOne vH_doorTwo)) ([.ref aW, .int x1] : List Value).toArray s 0 0 A = Q
  have L83 : ∀ (fuel : Nat) (y2_83 : Int32) (y3_83 : Int32) (y4_83 : Int32) (vW_cells_83 : Nat → Int32) (vW_inFront_83 : Nat → Int32) (vW_pairs_83 : Nat → Int32) (vW_who_83 : Nat → Int32) (vW_83 : Nat → Int32), ∀ (H : Heap) (locs : List Loc) (ls : Array Slot), va_P D vwCl (wX6_mostPair cy aW qW aH qH vW_83 vW_pairs_83 vH vW_cells_83 vH_next vW_who_83 vW_inFront_83 vH_sizes vH_width vH_kinds vH_doorOne vH_doorTwo) H → va_D A (wX6_mostPair cy aW qW aH qH vW_83 vW_pairs_83 vH vW_cells_83 vH_next vW_who_83 vW_inFront_83 vH_sizes vH_width vH_kinds vH_doorOne vH_doorTwo) → va_S A s.heap H locs → lv_has ls 5 [(0, .ref aW), (2, .int y2_83), (3, .int y3_83), (4, .int y4_83)] → lp (fX6_mostPair_B83) fuel (y2_83, y3_83, y4_83, vW_cells_83, vW_inFront_83, vW_pairs_83, vW_who_83, vW_83) = some (zr, z_vW, z_vW_pairs, z_vW_cells, z_vW_who, z_vW_inFront) → W p l e ({ frames := 3, cells := 0, slots := 0, locals := 73 } : Room) s m ([.ref aW, .int x1] : List Value).toArray below meth c H locs 0 0 Q (F0 m 83 ls []) := by
    intro fuel
    induction fuel with
    | zero => intro y2_83 y3_83 y4_83 vW_cells_83 vW_inFront_83 vW_pairs_83 vW_who_83 vW_83 H locs ls hP hD hS hl hok; exact (lp_0 hok).elim
    | succ fuel ih83 =>
      intro y2_83 y3_83 y4_83 vW_cells_83 vW_inFront_83 vW_pairs_83 vW_who_83 vW_83 H locs ls hP hD hS hl hok
      obtain ⟨y83, hok, hL83, hR83⟩ := lp_step hok
      have J112 : ∀ (y2_112 : Int32) (y3_112 : Int32), ∀ (H : Heap) (locs : List Loc) (ls : Array Slot), va_P D vwCl (wX6_mostPair cy aW qW aH qH vW_83 vW_pairs_83 vH vW_cells_83 vH_next vW_who_83 vW_inFront_83 vH_sizes vH_width vH_kinds vH_doorOne vH_doorTwo) H → va_D A (wX6_mostPair cy aW qW aH qH vW_83 vW_pairs_83 vH vW_cells_83 vH_next vW_who_83 vW_inFront_83 vH_sizes vH_width vH_kinds vH_doorOne vH_doorTwo) → va_S A s.heap H locs → lv_has ls 5 [(0, .ref aW), (2, .int y2_112), (3, .int y3_112), (4, .int y4_83)] → fX6_mostPair_J112 y4_83 vW_cells_83 vW_inFront_83 vW_pairs_83 vW_who_83 vW_83 y2_112 y3_112 = some y83 → W p l e ({ frames := 3, cells := 0, slots := 0, locals := 73 } : Room) s m ([.ref aW, .int x1] : List Value).toArray below meth c H locs 0 0 Q (F0 m 112 ls []) := by
        intro y2_112 y3_112 H locs ls hP hD hS hl hok
        unfold fX6_mostPair_J112 at hok
        refine lv_iinc (v := (y4_83 + 1)) (lv' := [(4, .int (y4_83 + 1)), (0, .ref aW), (2, .int y2_112), (3, .int y3_112)]) hx hb dX6_mostPair_112 hl (k := 3) rfl (by first | rfl | decide) (by decide) rfl (fun ls hl => ?_)
        refine lv_goto (tgt := 83) hx hb dX6_mostPair_115 (by decide) ?_
        exact ih83 y2_112 y3_112 (y4_83 + 1) vW_cells_83 vW_inFront_83 vW_pairs_83 vW_who_83 vW_83 H locs ls hP hD hS (lv_sub hl [1, 2, 3, 0] rfl) (hR83 _ (Option.some.inj hok).symm)
      unfold fX6_mostPair_B83 at hok
      try dsimp only at hok
      refine lv_iload hx hb dX6_mostPair_83 (lv_at hl 3 rfl) ?_
      refine lv_bipush (v := 70) hx hb dX6_mostPair_85 (by decide) ?_
      refine lv_icmp_ge (tgt := 118) hx hb dX6_mostPair_87 (by decide) (fun c87 => ?_) (fun c87 => ?_)
      · have hok := k_pos c87 hok
        obtain ⟨e83, hok, he83⟩ := ex_some hok
        have hok := hok.trans (congrArg some (hL83 _ he83))
        refine lv_iload_n hx hb dX6_mostPair_118 rfl (lv_at hl 2 rfl) ?_
        cases hok
        subst hQe; exact W.iret hx hb hr (fun t ht hW => ⟨⟨_, (), rfl, rfl, by rw [ht]; exact hP, va_K.moved hW.alike hK, hD⟩, hS.F ht⟩) hS.2.2 dX6_mostPair_119
      · have hok := k_neg c87 hok
        refine lv_aload_n hx hb dX6_mostPair_90 rfl (lv_at hl 0 rfl) ?_
        refine va_get (D := D) (ci := 5) (v := .ref (qW 3)) (C := RX6) (T := TX6) (N := 13) hx hb ht0 niX6 hown hK hP 0 rfl rfl 3 (by decide) (ht0 _ wd489) (fun _ h9 => h9) rfl dX6_mostPair_91 ?_
        refine lv_iload hx hb dX6_mostPair_94 (lv_at hl 3 rfl) ?_
        obtain ⟨g96, hok⟩ := gd_some hok
        refine va_iald hx hb hK hP 1 0 rfl rfl (okI_in g96) dX6_mostPair_96 ?_
        refine lv_iload_n hx hb dX6_mostPair_97 rfl (lv_at hl 1 rfl) ?_
        refine lv_icmp_le (tgt := 112) hx hb dX6_mostPair_98 (by decide) (fun c98 => ?_) (fun c98 => ?_)
        · have hok := k_pos c98 hok
          exact J112 y2_83 y3_83 H locs ls hP hD hS (lv_sub hl [0, 1, 2, 3] rfl) hok
        · have hok := k_neg c98 hok
          refine lv_aload_n hx hb dX6_mostPair_101 rfl (lv_at hl 0 rfl) ?_
          refine va_get (D := D) (ci := 5) (v := .ref (qW 3)) (C := RX6) (T := TX6) (N := 13) hx hb ht0 niX6 hown hK hP 0 rfl rfl 3 (by decide) (ht0 _ wd489) (fun _ h9 => h9) rfl dX6_mostPair_102 ?_
          refine lv_iload hx hb dX6_mostPair_105 (lv_at hl 3 rfl) ?_
          obtain ⟨g107, hok⟩ := gd_some hok
          refine va_iald hx hb hK hP 1 0 rfl rfl (okI_in g107) dX6_mostPair_107 ?_
          refine lv_istore_n (lv' := [(2, .int (vW_pairs_83 y4_83.toNatClampNeg)), (0, .ref aW), (3, .int y3_83), (4, .int y4_83)]) hx hb dX6_mostPair_108 rfl hl (by decide) rfl (fun ls hl => ?_)
          refine lv_iload hx hb dX6_mostPair_109 (lv_at hl 3 rfl) ?_
          refine lv_istore_n (lv' := [(3, .int y4_83), (2, .int (vW_pairs_83 y4_83.toNatClampNeg)), (0, .ref aW), (4, .int y4_83)]) hx hb dX6_mostPair_111 rfl hl (by decide) rfl (fun ls hl => ?_)
          exact J112 (vW_pairs_83 y4_83.toNatClampNeg) y4_83 H locs ls hP hD hS (lv_sub hl [2, 1, 0, 3] rfl) hok
  have L10 : ∀ (fuel : Nat) (y2_10 : Int32) (vW_cells_10 : Nat → Int32) (vW_inFront_10 : Nat → Int32) (vW_pairs_10 : Nat → Int32) (vW_who_10 : Nat → Int32) (vW_10 : Nat → Int32), ∀ (H : Heap) (locs : List Loc) (ls : Array Slot), va_P D vwCl (wX6_mostPair cy aW qW aH qH vW_10 vW_pairs_10 vH vW_cells_10 vH_next vW_who_10 vW_inFront_10 vH_sizes vH_width vH_kinds vH_doorOne vH_doorTwo) H → va_D A (wX6_mostPair cy aW qW aH qH vW_10 vW_pairs_10 vH vW_cells_10 vH_next vW_who_10 vW_inFront_10 vH_sizes vH_width vH_kinds vH_doorOne vH_doorTwo) → va_S A s.heap H locs → lv_has ls 5 [(0, .ref aW), (1, .int x1), (2, .int y2_10)] → lp (fX6_mostPair_B10 vH vH_next vH_sizes vH_width vH_kinds vH_doorOne vH_doorTwo x1) fuel (y2_10, vW_cells_10, vW_inFront_10, vW_pairs_10, vW_who_10, vW_10) = some (zr, z_vW, z_vW_pairs, z_vW_cells, z_vW_who, z_vW_inFront) → W p l e ({ frames := 3, cells := 0, slots := 0, locals := 73 } : Room) s m ([.ref aW, .int x1] : List Value).toArray below meth c H locs 0 0 Q (F0 m 10 ls []) := by
    intro fuel
    induction fuel with
    | zero => intro y2_10 vW_cells_10 vW_inFront_10 vW_pairs_10 vW_who_10 vW_10 H locs ls hP hD hS hl hok; exact (lp_0 hok).elim
    | succ fuel ih10 =>
      intro y2_10 vW_cells_10 vW_inFront_10 vW_pairs_10 vW_who_10 vW_10 H locs ls hP hD hS hl hok
      obtain ⟨y10, hok, hL10, hR10⟩ := lp_step hok
      have L22 : ∀ (fuel : Nat) (y3_22 : Int32) (vW_cells_22 : Nat → Int32) (vW_inFront_22 : Nat → Int32) (vW_pairs_22 : Nat → Int32) (vW_who_22 : Nat → Int32) (vW_22 : Nat → Int32), ∀ (H : Heap) (locs : List Loc) (ls : Array Slot), va_P D vwCl (wX6_mostPair cy aW qW aH qH vW_22 vW_pairs_22 vH vW_cells_22 vH_next vW_who_22 vW_inFront_22 vH_sizes vH_width vH_kinds vH_doorOne vH_doorTwo) H → va_D A (wX6_mostPair cy aW qW aH qH vW_22 vW_pairs_22 vH vW_cells_22 vH_next vW_who_22 vW_inFront_22 vH_sizes vH_width vH_kinds vH_doorOne vH_doorTwo) → va_S A s.heap H locs → lv_has ls 5 [(0, .ref aW), (1, .int x1), (2, .int y2_10), (3, .int y3_22)] → lp (fX6_mostPair_B22 vH vH_doorOne vH_doorTwo y2_10) fuel (y3_22, vW_cells_22, vW_inFront_22, vW_pairs_22, vW_who_22, vW_22) = some y10 → W p l e ({ frames := 3, cells := 0, slots := 0, locals := 73 } : Room) s m ([.ref aW, .int x1] : List Value).toArray below meth c H locs 0 0 Q (F0 m 22 ls []) := by
        intro fuel
        induction fuel with
        | zero => intro y3_22 vW_cells_22 vW_inFront_22 vW_pairs_22 vW_who_22 vW_22 H locs ls hP hD hS hl hok; exact (lp_0 hok).elim
        | succ fuel ih22 =>
          intro y3_22 vW_cells_22 vW_inFront_22 vW_pairs_22 vW_who_22 vW_22 H locs ls hP hD hS hl hok
          obtain ⟨y22, hok, hL22, hR22⟩ := lp_step hok
          have J63 : ∀ (vW_pairs_63 : Nat → Int32), ∀ (H : Heap) (locs : List Loc) (ls : Array Slot), va_P D vwCl (wX6_mostPair cy aW qW aH qH vW_22 vW_pairs_63 vH vW_cells_22 vH_next vW_who_22 vW_inFront_22 vH_sizes vH_width vH_kinds vH_doorOne vH_doorTwo) H → va_D A (wX6_mostPair cy aW qW aH qH vW_22 vW_pairs_63 vH vW_cells_22 vH_next vW_who_22 vW_inFront_22 vH_sizes vH_width vH_kinds vH_doorOne vH_doorTwo) → va_S A s.heap H locs → lv_has ls 5 [(0, .ref aW), (1, .int x1), (2, .int y2_10), (3, .int y3_22)] → fX6_mostPair_J63 y3_22 vW_cells_22 vW_inFront_22 vW_who_22 vW_22 vW_pairs_63 = some y22 → W p l e ({ frames := 3, cells := 0, slots := 0, locals := 73 } : Room) s m ([.ref aW, .int x1] : List Value).toArray below meth c H locs 0 0 Q (F0 m 63 ls []) := by
            intro vW_pairs_63 H locs ls hP hD hS hl hok
            unfold fX6_mostPair_J63 at hok
            refine lv_iinc (v := (y3_22 + 1)) (lv' := [(3, .int (y3_22 + 1)), (0, .ref aW), (1, .int x1), (2, .int y2_10)]) hx hb dX6_mostPair_63 hl (k := 3) rfl (by first | rfl | decide) (by decide) rfl (fun ls hl => ?_)
            refine lv_goto (tgt := 22) hx hb dX6_mostPair_66 (by decide) ?_
            exact ih22 (y3_22 + 1) vW_cells_22 vW_inFront_22 vW_pairs_63 vW_who_22 vW_22 H locs ls hP hD hS (lv_sub hl [1, 2, 3, 0] rfl) (hR22 _ (Option.some.inj hok).symm)
          unfold fX6_mostPair_B22 at hok
          try dsimp only at hok
          refine lv_iload_n hx hb dX6_mostPair_22 rfl (lv_at hl 3 rfl) ?_
          refine lv_aload_n hx hb dX6_mostPair_23 rfl (lv_at hl 0 rfl) ?_
          refine va_get (D := D) (ci := 5) (v := .ref aH) (C := RX6) (T := TX6) (N := 13) hx hb ht0 niX6 hown hK hP 0 rfl rfl 4 (by decide) (ht0 _ wd101) (fun _ h9 => h9) rfl dX6_mostPair_24 ?_
          refine va_get (D := D) (ci := 3) (v := .int (vH 4)) (C := RX4) (T := TX4) (N := 20) hx hb ht0 niX4 hown hK hP 2 rfl rfl 4 (by decide) (ht0 _ wd484) (fun _ h9 => h9) rfl dX6_mostPair_27 ?_
          refine lv_icmp_ge (tgt := 69) hx hb dX6_mostPair_30 (by decide) (fun c30 => ?_) (fun c30 => ?_)
          · have hok := k_pos c30 hok
            obtain ⟨e22, hok, he22⟩ := ex_some hok
            have hok := hok.trans (congrArg some (hL22 _ he22))
            refine lv_iinc (v := (y2_10 + 1)) (lv' := [(2, .int (y2_10 + 1)), (0, .ref aW), (1, .int x1), (3, .int y3_22)]) hx hb dX6_mostPair_69 hl (k := 2) rfl (by first | rfl | decide) (by decide) rfl (fun ls hl => ?_)
            refine lv_goto (tgt := 10) hx hb dX6_mostPair_72 (by decide) ?_
            exact ih10 (y2_10 + 1) vW_cells_22 vW_inFront_22 vW_pairs_22 vW_who_22 vW_22 H locs ls hP hD hS (lv_sub hl [1, 2, 0] rfl) (hR10 _ (Option.some.inj hok).symm)
          · have hok := k_neg c30 hok
            refine lv_aload_n hx hb dX6_mostPair_33 rfl (lv_at hl 0 rfl) ?_
            refine lv_iload_n hx hb dX6_mostPair_34 rfl (lv_at hl 3 rfl) ?_
            obtain ⟨r35, hc35, hok⟩ := k_bind hok
            refine kCi (wc := (wX6_pairAt cy aW qW aH qH vW_22 vH vH_doorOne vH_doorTwo vW_who_22)) (wc2 := (wX6_pairAt cy aW qW aH qH vW_22 vH vH_doorOne vH_doorTwo vW_who_22)) (wr := [(qW 3, rI cy 70 vW_pairs_22), (qW 0, rI cy 7 vW_cells_22), (qH 10, rI cy 36 vH_next), (qW 2, rI cy 7 vW_inFront_22), (qH 15, rI cy 7 vH_sizes), (qH 11, rI cy 36 vH_width), (qH 14, rI cy 7 vH_kinds)]) (ws2 := (wX6_mostPair cy aW qW aH qH vW_22 vW_pairs_22 vH vW_cells_22 vH_next vW_who_22 vW_inFront_22 vH_sizes vH_width vH_kinds vH_doorOne vH_doorTwo)) (kRunV (As := [.int y3_22]) (rest := []) ⟨hx, hb, hml, hown, ht0⟩ (kX6_pairAt l D cy _ aW qW aH qH vW_22 vH vH_doorOne vH_doorTwo vW_who_22 y3_22 r35 hc35 _ rfl) (cwV 1 ht0 (gV wd485 wd486 wd487 wd114 wd488) rfl rfl rfl (by decide +kernel) ⟨Nat.le_of_ble_eq_true rfl, Nat.le_of_ble_eq_true rfl⟩) hK hN hP hD [0, 2, 10, 11, 5] rfl (by decide) 0 5 rfl rfl rfl hl.1 rfl (Nat.le_of_ble_eq_true rfl) dX6_mostPair_35 ⟨Nat.zero_le _, Nat.zero_le _⟩) hP hD hS hA [0, 2, 10, 11, 5] [1, 3, 4, 6, 7, 8, 9] rfl rfl (by decide) (by decide) [7, 0, 8, 1, 2, 11, 3, 4, 5, 6, 9, 10] (by decide) rfl rfl (fun H locs hP hD hS => ?_)
            refine lv_istore (lv' := [(4, .int r35), (0, .ref aW), (1, .int x1), (2, .int y2_10), (3, .int y3_22)]) hx hb dX6_mostPair_38 hl (by decide) rfl (fun ls hl => ?_)
            refine lv_iload hx hb dX6_mostPair_40 (lv_at hl 0 rfl) ?_
            refine lv_if_lt (tgt := 63) hx hb dX6_mostPair_42 (by decide) (fun c42 => ?_) (fun c42 => ?_)
            · have hok := k_pos c42 hok
              exact J63 vW_pairs_22 H locs ls hP hD hS (lv_sub hl [1, 2, 3, 4] rfl) hok
            · have hok := k_neg c42 hok
              refine lv_iload hx hb dX6_mostPair_45 (lv_at hl 0 rfl) ?_
              refine lv_bipush (v := 70) hx hb dX6_mostPair_47 (by decide) ?_
              refine lv_icmp_ge (tgt := 63) hx hb dX6_mostPair_49 (by decide) (fun c49 => ?_) (fun c49 => ?_)
              · have hok := k_pos c49 hok
                exact J63 vW_pairs_22 H locs ls hP hD hS (lv_sub hl [1, 2, 3, 4] rfl) hok
              · have hok := k_neg c49 hok
                refine lv_aload_n hx hb dX6_mostPair_52 rfl (lv_at hl 1 rfl) ?_
                refine va_get (D := D) (ci := 5) (v := .ref (qW 3)) (C := RX6) (T := TX6) (N := 13) hx hb ht0 niX6 hown hK hP 0 rfl rfl 3 (by decide) (ht0 _ wd489) (fun _ h9 => h9) rfl dX6_mostPair_53 ?_
                refine lv_iload hx hb dX6_mostPair_56 (lv_at hl 0 rfl) ?_
                refine lv_dup2_11 hx hb dX6_mostPair_58 rfl rfl ?_
                obtain ⟨g59, hok⟩ := gd_some hok
                refine va_iald hx hb hK hP 1 0 rfl rfl (okI_in g59) dX6_mostPair_59 ?_
                refine lv_iconst (v := 1) hx hb dX6_mostPair_60 (by decide) ?_
                refine lv_iadd hx hb dX6_mostPair_61 ?_
                obtain ⟨g62, hok⟩ := gd_some hok
                refine va_iast hx hb hK hP hD hS 1 0 rfl rfl (okI_in g62) dX6_mostPair_62 (fun H locs hP hD hS => ?_)
                have hP : va_P D vwCl (wX6_mostPair cy aW qW aH qH vW_22 (upd vW_pairs_22 r35.toNatClampNeg ((vW_pairs_22 r35.toNatClampNeg) + (1 : Int32))) vH vW_cells_22 vH_next vW_who_22 vW_inFront_22 vH_sizes vH_width vH_kinds vH_doorOne vH_doorTwo) H := hP
                have hD : va_D A (wX6_mostPair cy aW qW aH qH vW_22 (upd vW_pairs_22 r35.toNatClampNeg ((vW_pairs_22 r35.toNatClampNeg) + (1 : Int32))) vH vW_cells_22 vH_next vW_who_22 vW_inFront_22 vH_sizes vH_width vH_kinds vH_doorOne vH_doorTwo) := hD
                exact J63 (upd vW_pairs_22 r35.toNatClampNeg ((vW_pairs_22 r35.toNatClampNeg) + (1 : Int32))) H locs ls hP hD hS (lv_sub hl [1, 2, 3, 4] rfl) hok
      unfold fX6_mostPair_B10 at hok
      try dsimp only at hok
      refine lv_iload_n hx hb dX6_mostPair_10 rfl (lv_at hl 2 rfl) ?_
      refine lv_iload_n hx hb dX6_mostPair_11 rfl (lv_at hl 1 rfl) ?_
      refine lv_icmp_ge (tgt := 75) hx hb dX6_mostPair_12 (by decide) (fun c12 => ?_) (fun c12 => ?_)
      · have hok := k_pos c12 hok
        obtain ⟨e10, hok, he10⟩ := ex_some hok
        have hok := hok.trans (congrArg some (hL10 _ he10))
        refine lv_iconst (v := 0) hx hb dX6_mostPair_75 (by decide) ?_
        refine lv_istore_n (lv' := [(2, .int 0), (0, .ref aW), (1, .int x1)]) hx hb dX6_mostPair_76 rfl hl (by decide) rfl (fun ls hl => ?_)
        refine lv_bipush (v := -2) hx hb dX6_mostPair_77 (by decide) ?_
        refine lv_istore_n (lv' := [(3, .int (-2)), (2, .int 0), (0, .ref aW), (1, .int x1)]) hx hb dX6_mostPair_79 rfl hl (by decide) rfl (fun ls hl => ?_)
        refine lv_iconst (v := 0) hx hb dX6_mostPair_80 (by decide) ?_
        refine lv_istore (lv' := [(4, .int 0), (3, .int (-2)), (2, .int 0), (0, .ref aW), (1, .int x1)]) hx hb dX6_mostPair_81 hl (by decide) rfl (fun ls hl => ?_)
        exact L83 5000 (0 : Int32) (-2 : Int32) (0 : Int32) vW_cells_10 vW_inFront_10 vW_pairs_10 vW_who_10 vW_10 H locs ls hP hD hS (lv_sub hl [3, 2, 1, 0] rfl) hok
      · have hok := k_neg c12 hok
        refine lv_aload_n hx hb dX6_mostPair_15 rfl (lv_at hl 0 rfl) ?_
        refine lv_iconst (v := 0) hx hb dX6_mostPair_16 (by decide) ?_
        obtain ⟨⟨vW_17, vW_cells_17, vW_who_17, vW_inFront_17⟩, hc17, hok⟩ := k_bind hok
        try dsimp only at hok
        refine kCv (wc := (wX6_pass cy aW qW aH qH vW_10 vH vW_cells_10 vH_next vW_who_10 vW_inFront_10 vH_sizes vH_width vH_kinds)) (wc2 := (wX6_pass cy aW qW aH qH vW_17 vH vW_cells_17 vH_next vW_who_17 vW_inFront_17 vH_sizes vH_width vH_kinds)) (wr := [(qW 3, rI cy 70 vW_pairs_10), (qH 12, rI cy 5 vH_doorOne), (qH 13, rI cy 5 vH_doorTwo)]) (ws2 := (wX6_mostPair cy aW qW aH qH vW_17 vW_pairs_10 vH vW_cells_17 vH_next vW_who_17 vW_inFront_17 vH_sizes vH_width vH_kinds vH_doorOne vH_doorTwo)) (kRunV (As := [.int 0]) (rest := []) ⟨hx, hb, hml, hown, ht0⟩ (kX6_pass l D cy _ aW qW aH qH vW_10 vH vW_cells_10 vH_next vW_who_10 vW_inFront_10 vH_sizes vH_width vH_kinds (0 : Int32) vW_17 vW_cells_17 vW_who_17 vW_inFront_17 hc17 _ rfl) (cwV 1 ht0 (gV wd154 wd155 wd156 wd114 wd157) rfl rfl rfl (by decide +kernel) ⟨Nat.le_of_ble_eq_true rfl, Nat.le_of_ble_eq_true rfl⟩) hK hN hP hD [0, 2, 3, 4, 5, 6, 7, 8, 9] rfl (by decide) 0 5 rfl rfl rfl hl.1 rfl (Nat.le_of_ble_eq_true rfl) dX6_mostPair_17 ⟨Nat.zero_le _, Nat.zero_le _⟩) hP hD hS hA [0, 2, 3, 4, 5, 6, 7, 8, 9] [1, 10, 11] rfl rfl (by decide) (by decide) [3, 0, 4, 5, 6, 7, 8, 9, 10, 11, 1, 2] (by decide) rfl rfl (fun H locs hP hD hS => ?_)
        refine lv_iconst (v := 0) hx hb dX6_mostPair_20 (by decide) ?_
        refine lv_istore_n (lv' := [(3, .int 0), (0, .ref aW), (1, .int x1), (2, .int y2_10)]) hx hb dX6_mostPair_21 rfl hl (by decide) rfl (fun ls hl => ?_)
        exact L22 5000 (0 : Int32) vW_cells_17 vW_inFront_17 vW_pairs_10 vW_who_17 vW_17 H locs ls hP hD hS (lv_sub hl [1, 2, 3, 0] rfl) hok
  unfold fX6_mostPair at hok
  obtain ⟨H, hH⟩ : ∃ H, H = s.heap := ⟨_, rfl⟩
  obtain ⟨locs, hlc⟩ : ∃ x : List Loc, x = [] := ⟨_, rfl⟩
  have hP : va_P D vwCl (wX6_mostPair cy aW qW aH qH vW vW_pairs vH vW_cells vH_next vW_who vW_inFront vH_sizes vH_width vH_kinds vH_doorOne vH_doorTwo) H := by rw [hH]; exact hP
  have hS : va_S A s.heap H locs := by rw [hH, hlc]; exact hS
  rw [show W p l e _ s m _ below meth c s.heap [] = W p l e _ s m _ below meth c H locs from by rw [hH, hlc]]
  refine lv_aload_n hx hb dX6_mostPair_0 rfl (lv_at hl 0 rfl) ?_
  refine va_get (D := D) (ci := 5) (v := .ref (qW 3)) (C := RX6) (T := TX6) (N := 13) hx hb ht0 niX6 hown hK hP 0 rfl rfl 3 (by decide) (ht0 _ wd489) (fun _ h9 => h9) rfl dX6_mostPair_1 ?_
  refine lv_iconst (v := 0) hx hb dX6_mostPair_4 (by decide) ?_
  obtain ⟨p0_5, hc5, hok⟩ := k_bind hok
  refine kCv (wc := (wJ7_fill_53178 cy (qW 3) 70 vW_pairs)) (wc2 := (wJ7_fill_53178 cy (qW 3) 70 p0_5)) (wr := [(aW, oX6 vW qW aH), (aH, oX4 vH qH), (qW 0, rI cy 7 vW_cells), (qH 10, rI cy 36 vH_next), (qW 1, rI cy 36 vW_who), (qW 2, rI cy 7 vW_inFront), (qH 15, rI cy 7 vH_sizes), (qH 11, rI cy 36 vH_width), (qH 14, rI cy 7 vH_kinds), (qH 12, rI cy 5 vH_doorOne), (qH 13, rI cy 5 vH_doorTwo)]) (ws2 := (wX6_mostPair cy aW qW aH qH vW p0_5 vH vW_cells vH_next vW_who vW_inFront vH_sizes vH_width vH_kinds vH_doorOne vH_doorTwo)) (kRunS (As := [.ref (qW 3), .int 0]) (rest := []) ⟨hx, hb, hml, hown, ht0⟩ (kJ7_fill_53178 l D cy _ (qW 3) 70 vW_pairs (0 : Int32) p0_5 hc5 _ rfl) (va_cwS 2 ht0 (gS wd126 wd30 wd31 wd32) rfl rfl rfl (by decide +kernel) ⟨Nat.le_of_ble_eq_true rfl, Nat.le_of_ble_eq_true rfl⟩) hK hN hP hD [1] rfl (by decide) rfl hl.1 rfl (Nat.le_of_ble_eq_true rfl) dX6_mostPair_5 ⟨Nat.zero_le _, Nat.zero_le _⟩) hP hD hS hA [1] [0, 2, 3, 4, 5, 6, 7, 8, 9, 10, 11] rfl rfl (by decide) (by decide) [0, 11, 1, 2, 3, 4, 5, 6, 7, 8, 9, 10] (by decide) rfl rfl (fun H locs hP hD hS => ?_)
  refine lv_iconst (v := 0) hx hb dX6_mostPair_8 (by decide) ?_
  refine lv_istore_n (lv' := [(2, .int 0), (0, .ref aW), (1, .int x1)]) hx hb dX6_mostPair_9 rfl hl (by decide) rfl (fun ls hl => ?_)
  exact L10 5000 (0 : Int32) vW_cells vW_inFront p0_5 vW_who vW H locs ls hP hD hS (lv_sub hl [1, 2, 0] rfl) hok
def wsX8_feed : List Cond := .code yX8_feed cX8_feed 6 (some .int) :: W0
abbrev wX8_feed (cy : Nat → ClassId) (aN : Nat) (qN : Nat → Nat) (aH : Nat) (qR : Nat → Nat) (aH0 : Nat) (vN : Nat → Int32) (vR_j11 : Int64) (vR : Nat → Int32) (vR_tape : Nat → Int32) : va_W := [(aN, oX8 vN qN aH), (qN 0, oX5 vR qR vR_j11 aH0), (qR 0, rB cy 900 vR_tape)]
set_option maxHeartbeats 4000000 in
set_option maxRecDepth 100000 in
theorem kX8_feed (l : Launch) (D : va_G) (cy : Nat → ClassId) (sz : Nat) (aN : Nat) (qN : Nat → Nat) (aH : Nat) (qR : Nat → Nat) (aH0 : Nat) (vN : Nat → Int32) (vR_j11 : Int64) (vR : Nat → Int32) (vR_tape : Nat → Int32) (x1 : Int32) (x2 : Int32) (x3 : Int32) (x4 : Int32) (x5 : Int32) (zr : Int32) (z_vR : Nat → Int32) (z_vR_tape : Nat → Int32) (hok : fX8_feed vN vR_j11 vR vR_tape x1 x2 x3 x4 x5 = some (zr, z_vR, z_vR_tape)) (A : Nat → Prop) (hAe : va_A (wX8_feed cy aN qN aH qR aH0 vN vR_j11 vR vR_tape) sz = A) : Met l yX8_feed wsX8_feed ({ frames := 1, cells := 0, slots := 0, locals := 22 } : Room) (kPre D cy [.ref aN, .int x1, .int x2, .int x3, .int x4, .int x5] (wX8_feed cy aN qN aH qR aH0 vN vR_j11 vR vR_tape) sz) (kQi D cy zr A (wX8_feed cy aN qN aH qR aH0 vN vR_j11 z_vR z_vR_tape)) 0 0 A := by
  refine Met.ofW (cc := cX8_feed) (maxL := 6) (ret := (some .int)) (by decide) rfl ?_
  intro p e s m args below meth c s₁ B hml hv
  obtain ⟨rfl, hsz, hP, hK, hD0, hN⟩ := hv
  have hx := B.exec
  have hb := B.bytes
  have hr := B.returns
  have ht0 : ∀ w ∈ W0, w.before _ s = true := fun w h => atoms_spec (ws := wsX8_feed) B.pre w (List.mem_cons_of_mem _ h)
  have hown : s.vm.findClass RX8 = some m.cls := findClass_of_methodNamed B.named
  have hlocks := B.notSynchronized
  subst hsz
  have hD : va_D A (wX8_feed cy aN qN aH qR aH0 vN vR_j11 vR vR_tape) := by rw [← hAe]; exact hD0.self
  have hA : ∀ q : Nat, s.heap.size ≤ q → A q := fun q h => by rw [← hAe]; exact Or.inr h
  have hS : va_S A s.heap s.heap [] := va_S.rf
  have hl := lv_entry ([.ref aN, .int x1, .int x2, .int x3, .int x4, .int x5]) (n := 6) (Nat.le_of_ble_eq_true rfl)
  rw [lg_entry_eq]
  generalize (lg_sl ([.ref aN, .int x1, .int x2, .int x3, .int x4, .int x5]) ++ List.replicate (6 - (lg_sl ([.ref aN, .int x1, .int x2, .int x3, .int x4, .int x5])).length) Slot.unset).toArray = ls at hl ⊢
  have hl : lv_has ls 6 [(0, .ref aN), (1, .int x1), (2, .int x2), (3, .int x3), (4, .int x4), (5, .int x5)] := hl
  unfold fX8_feed at hok
  obtain ⟨H, hH⟩ : ∃ H, H = s.heap := ⟨_, rfl⟩
  obtain ⟨locs, hlc⟩ : ∃ x : List Loc, x = [] := ⟨_, rfl⟩
  have hP : va_P D vwCl (wX8_feed cy aN qN aH qR aH0 vN vR_j11 vR vR_tape) H := by rw [hH]; exact hP
  have hS : va_S A s.heap H locs := by rw [hH, hlc]; exact hS
  rw [show W p l e _ s m _ below meth c s.heap [] = W p l e _ s m _ below meth c H locs from by rw [hH, hlc]]
  refine lv_aload_n hx hb dX8_feed_0 rfl (lv_at hl 0 rfl) ?_
  refine va_get (D := D) (ci := 7) (v := .ref (qN 0)) (C := RX8) (T := TX8) (N := 9) hx hb ht0 niX8 hown hK hP 0 rfl rfl 0 (by decide) (ht0 _ wd490) (fun _ h9 => h9) rfl dX8_feed_1 ?_
  refine lv_bipush (v := 20) hx hb dX8_feed_4 (by decide) ?_
  obtain ⟨r6, hc6, hok⟩ := k_bind hok
  refine kCi (wc := (wX5_hasRoom cy (qN 0) qR aH0 vR_j11 vR)) (wc2 := (wX5_hasRoom cy (qN 0) qR aH0 vR_j11 vR)) (wr := [(aN, oX8 vN qN aH), (qR 0, rB cy 900 vR_tape)]) (ws2 := (wX8_feed cy aN qN aH qR aH0 vN vR_j11 vR vR_tape)) (kRunV (As := [.int 20]) (rest := []) ⟨hx, hb, hml, hown, ht0⟩ (kX5_hasRoom l D cy _ (qN 0) qR aH0 vR_j11 vR (20 : Int32) r6 hc6 _ rfl) (cwV 1 ht0 (gV wd491 wd492 wd493 wd276 wd494) rfl rfl rfl (by decide +kernel) ⟨Nat.le_of_ble_eq_true rfl, Nat.le_of_ble_eq_true rfl⟩) hK hN hP hD [1] rfl (by decide) 1 4 rfl rfl rfl hl.1 rfl (Nat.le_of_ble_eq_true rfl) dX8_feed_6 ⟨Nat.zero_le _, Nat.zero_le _⟩) hP hD hS hA [1] [0, 2] rfl rfl (by decide) (by decide) [0, 2, 1] (by decide) rfl rfl (fun H locs hP hD hS => ?_)
  refine lv_if_ne (tgt := 14) hx hb dX8_feed_9 (by decide) (fun c9 => ?_) (fun c9 => ?_)
  · have hok := k_neg c9 hok
    refine lv_aload_n hx hb dX8_feed_14 rfl (lv_at hl 0 rfl) ?_
    refine va_get (D := D) (ci := 7) (v := .ref (qN 0)) (C := RX8) (T := TX8) (N := 9) hx hb ht0 niX8 hown hK hP 0 rfl rfl 0 (by decide) (ht0 _ wd490) (fun _ h9 => h9) rfl dX8_feed_15 ?_
    refine lv_iload_n hx hb dX8_feed_18 rfl (lv_at hl 1 rfl) ?_
    obtain ⟨⟨vR_19, vR_tape_19⟩, hc19, hok⟩ := k_bind hok
    try dsimp only at hok
    refine kCv (wc := (wX5_append cy (qN 0) qR aH0 vR_j11 vR vR_tape)) (wc2 := (wX5_append cy (qN 0) qR aH0 vR_j11 vR_19 vR_tape_19)) (wr := [(aN, oX8 vN qN aH)]) (ws2 := (wX8_feed cy aN qN aH qR aH0 vN vR_j11 vR_19 vR_tape_19)) (kRunV (As := [.int x1]) (rest := []) ⟨hx, hb, hml, hown, ht0⟩ (kX5_append l D cy _ (qN 0) qR aH0 vR_j11 vR vR_tape x1 vR_19 vR_tape_19 hc19 _ rfl) (cwV 1 ht0 (gV wd495 wd496 wd497 wd276 wd498) rfl rfl rfl (by decide +kernel) ⟨Nat.le_of_ble_eq_true rfl, Nat.le_of_ble_eq_true rfl⟩) hK hN hP hD [1, 2] rfl (by decide) 1 4 rfl rfl rfl hl.1 rfl (Nat.le_of_ble_eq_true rfl) dX8_feed_19 ⟨Nat.zero_le _, Nat.zero_le _⟩) hP hD hS hA [1, 2] [0] rfl rfl (by decide) (by decide) [0, 1, 2] (by decide) rfl rfl (fun H locs hP hD hS => ?_)
    refine lv_aload_n hx hb dX8_feed_22 rfl (lv_at hl 0 rfl) ?_
    refine va_get (D := D) (ci := 7) (v := .ref (qN 0)) (C := RX8) (T := TX8) (N := 9) hx hb ht0 niX8 hown hK hP 0 rfl rfl 0 (by decide) (ht0 _ wd490) (fun _ h9 => h9) rfl dX8_feed_23 ?_
    refine lv_iload_n hx hb dX8_feed_26 rfl (lv_at hl 2 rfl) ?_
    obtain ⟨⟨vR_27, vR_tape_27⟩, hc27, hok⟩ := k_bind hok
    try dsimp only at hok
    refine kCv (wc := (wX5_append cy (qN 0) qR aH0 vR_j11 vR_19 vR_tape_19)) (wc2 := (wX5_append cy (qN 0) qR aH0 vR_j11 vR_27 vR_tape_27)) (wr := [(aN, oX8 vN qN aH)]) (ws2 := (wX8_feed cy aN qN aH qR aH0 vN vR_j11 vR_27 vR_tape_27)) (kRunV (As := [.int x2]) (rest := []) ⟨hx, hb, hml, hown, ht0⟩ (kX5_append l D cy _ (qN 0) qR aH0 vR_j11 vR_19 vR_tape_19 x2 vR_27 vR_tape_27 hc27 _ rfl) (cwV 1 ht0 (gV wd495 wd496 wd497 wd276 wd498) rfl rfl rfl (by decide +kernel) ⟨Nat.le_of_ble_eq_true rfl, Nat.le_of_ble_eq_true rfl⟩) hK hN hP hD [1, 2] rfl (by decide) 1 4 rfl rfl rfl hl.1 rfl (Nat.le_of_ble_eq_true rfl) dX8_feed_27 ⟨Nat.zero_le _, Nat.zero_le _⟩) hP hD hS hA [1, 2] [0] rfl rfl (by decide) (by decide) [0, 1, 2] (by decide) rfl rfl (fun H locs hP hD hS => ?_)
    refine lv_aload_n hx hb dX8_feed_30 rfl (lv_at hl 0 rfl) ?_
    refine va_get (D := D) (ci := 7) (v := .ref (qN 0)) (C := RX8) (T := TX8) (N := 9) hx hb ht0 niX8 hown hK hP 0 rfl rfl 0 (by decide) (ht0 _ wd490) (fun _ h9 => h9) rfl dX8_feed_31 ?_
    refine lv_iload_n hx hb dX8_feed_34 rfl (lv_at hl 3 rfl) ?_
    obtain ⟨⟨vR_35, vR_tape_35⟩, hc35, hok⟩ := k_bind hok
    try dsimp only at hok
    refine kCv (wc := (wX5_append cy (qN 0) qR aH0 vR_j11 vR_27 vR_tape_27)) (wc2 := (wX5_append cy (qN 0) qR aH0 vR_j11 vR_35 vR_tape_35)) (wr := [(aN, oX8 vN qN aH)]) (ws2 := (wX8_feed cy aN qN aH qR aH0 vN vR_j11 vR_35 vR_tape_35)) (kRunV (As := [.int x3]) (rest := []) ⟨hx, hb, hml, hown, ht0⟩ (kX5_append l D cy _ (qN 0) qR aH0 vR_j11 vR_27 vR_tape_27 x3 vR_35 vR_tape_35 hc35 _ rfl) (cwV 1 ht0 (gV wd495 wd496 wd497 wd276 wd498) rfl rfl rfl (by decide +kernel) ⟨Nat.le_of_ble_eq_true rfl, Nat.le_of_ble_eq_true rfl⟩) hK hN hP hD [1, 2] rfl (by decide) 1 4 rfl rfl rfl hl.1 rfl (Nat.le_of_ble_eq_true rfl) dX8_feed_35 ⟨Nat.zero_le _, Nat.zero_le _⟩) hP hD hS hA [1, 2] [0] rfl rfl (by decide) (by decide) [0, 1, 2] (by decide) rfl rfl (fun H locs hP hD hS => ?_)
    refine lv_aload_n hx hb dX8_feed_38 rfl (lv_at hl 0 rfl) ?_
    refine va_get (D := D) (ci := 7) (v := .ref (qN 0)) (C := RX8) (T := TX8) (N := 9) hx hb ht0 niX8 hown hK hP 0 rfl rfl 0 (by decide) (ht0 _ wd490) (fun _ h9 => h9) rfl dX8_feed_39 ?_
    refine lv_iload hx hb dX8_feed_42 (lv_at hl 4 rfl) ?_
    obtain ⟨⟨vR_44, vR_tape_44⟩, hc44, hok⟩ := k_bind hok
    try dsimp only at hok
    refine kCv (wc := (wX5_append cy (qN 0) qR aH0 vR_j11 vR_35 vR_tape_35)) (wc2 := (wX5_append cy (qN 0) qR aH0 vR_j11 vR_44 vR_tape_44)) (wr := [(aN, oX8 vN qN aH)]) (ws2 := (wX8_feed cy aN qN aH qR aH0 vN vR_j11 vR_44 vR_tape_44)) (kRunV (As := [.int x4]) (rest := []) ⟨hx, hb, hml, hown, ht0⟩ (kX5_append l D cy _ (qN 0) qR aH0 vR_j11 vR_35 vR_tape_35 x4 vR_44 vR_tape_44 hc44 _ rfl) (cwV 1 ht0 (gV wd495 wd496 wd497 wd276 wd498) rfl rfl rfl (by decide +kernel) ⟨Nat.le_of_ble_eq_true rfl, Nat.le_of_ble_eq_true rfl⟩) hK hN hP hD [1, 2] rfl (by decide) 1 4 rfl rfl rfl hl.1 rfl (Nat.le_of_ble_eq_true rfl) dX8_feed_44 ⟨Nat.zero_le _, Nat.zero_le _⟩) hP hD hS hA [1, 2] [0] rfl rfl (by decide) (by decide) [0, 1, 2] (by decide) rfl rfl (fun H locs hP hD hS => ?_)
    refine lv_aload_n hx hb dX8_feed_47 rfl (lv_at hl 0 rfl) ?_
    refine va_get (D := D) (ci := 7) (v := .ref (qN 0)) (C := RX8) (T := TX8) (N := 9) hx hb ht0 niX8 hown hK hP 0 rfl rfl 0 (by decide) (ht0 _ wd490) (fun _ h9 => h9) rfl dX8_feed_48 ?_
    refine lv_iload hx hb dX8_feed_51 (lv_at hl 5 rfl) ?_
    obtain ⟨⟨vR_53, vR_tape_53⟩, hc53, hok⟩ := k_bind hok
    try dsimp only at hok
    refine kCv (wc := (wX5_append cy (qN 0) qR aH0 vR_j11 vR_44 vR_tape_44)) (wc2 := (wX5_append cy (qN 0) qR aH0 vR_j11 vR_53 vR_tape_53)) (wr := [(aN, oX8 vN qN aH)]) (ws2 := (wX8_feed cy aN qN aH qR aH0 vN vR_j11 vR_53 vR_tape_53)) (kRunV (As := [.int x5]) (rest := []) ⟨hx, hb, hml, hown, ht0⟩ (kX5_append l D cy _ (qN 0) qR aH0 vR_j11 vR_44 vR_tape_44 x5 vR_53 vR_tape_53 hc53 _ rfl) (cwV 1 ht0 (gV wd495 wd496 wd497 wd276 wd498) rfl rfl rfl (by decide +kernel) ⟨Nat.le_of_ble_eq_true rfl, Nat.le_of_ble_eq_true rfl⟩) hK hN hP hD [1, 2] rfl (by decide) 1 4 rfl rfl rfl hl.1 rfl (Nat.le_of_ble_eq_true rfl) dX8_feed_53 ⟨Nat.zero_le _, Nat.zero_le _⟩) hP hD hS hA [1, 2] [0] rfl rfl (by decide) (by decide) [0, 1, 2] (by decide) rfl rfl (fun H locs hP hD hS => ?_)
    refine lv_aload_n hx hb dX8_feed_56 rfl (lv_at hl 0 rfl) ?_
    refine va_get (D := D) (ci := 7) (v := .ref (qN 0)) (C := RX8) (T := TX8) (N := 9) hx hb ht0 niX8 hown hK hP 0 rfl rfl 0 (by decide) (ht0 _ wd490) (fun _ h9 => h9) rfl dX8_feed_57 ?_
    obtain ⟨r60, hc60, hok⟩ := k_bind hok
    refine kCi (wc := (wX5_count cy (qN 0) qR aH0 vR_j11 vR_53)) (wc2 := (wX5_count cy (qN 0) qR aH0 vR_j11 vR_53)) (wr := [(aN, oX8 vN qN aH), (qR 0, rB cy 900 vR_tape_53)]) (ws2 := (wX8_feed cy aN qN aH qR aH0 vN vR_j11 vR_53 vR_tape_53)) (kRunV (As := []) (rest := []) ⟨hx, hb, hml, hown, ht0⟩ (kX5_count l D cy _ (qN 0) qR aH0 vR_j11 vR_53 r60 hc60 _ rfl) (cwV 0 ht0 (gV wd499 wd500 wd501 wd276 wd502) rfl rfl rfl (by decide +kernel) ⟨Nat.le_of_ble_eq_true rfl, Nat.le_of_ble_eq_true rfl⟩) hK hN hP hD [1] rfl (by decide) 1 4 rfl rfl rfl hl.1 rfl (Nat.le_of_ble_eq_true rfl) dX8_feed_60 ⟨Nat.zero_le _, Nat.zero_le _⟩) hP hD hS hA [1] [0, 2] rfl rfl (by decide) (by decide) [0, 2, 1] (by decide) rfl rfl (fun H locs hP hD hS => ?_)
    cases hok
    exact W.iret hx hb hr (fun t ht hW => ⟨⟨_, (), rfl, rfl, by rw [ht]; exact hP, va_K.moved hW.alike hK, hD⟩, hS.F ht⟩) hS.2.2 dX8_feed_63
  · have hok := k_pos c9 hok
    refine lv_iconst (v := -1) hx hb dX8_feed_12 (by decide) ?_
    cases hok
    exact W.iret hx hb hr (fun t ht hW => ⟨⟨_, (), rfl, rfl, by rw [ht]; exact hP, va_K.moved hW.alike hK, hD⟩, hS.F ht⟩) hS.2.2 dX8_feed_13
def wsX8_refuse : List Cond := .code yX8_refuse cX8_refuse 2 (some .int) :: W0
abbrev wX8_refuse (cy : Nat → ClassId) (aN : Nat) (qN : Nat → Nat) (aH : Nat) (vN : Nat → Int32) : va_W := [(aN, oX8 vN qN aH)]
set_option maxHeartbeats 4000000 in
set_option maxRecDepth 100000 in
theorem kX8_refuse (l : Launch) (D : va_G) (cy : Nat → ClassId) (sz : Nat) (aN : Nat) (qN : Nat → Nat) (aH : Nat) (vN : Nat → Int32) (x1 : Int32) (zr : Int32) (z_vN : Nat → Int32) (hok : fX8_refuse vN x1 = some (zr, z_vN)) (A : Nat → Prop) (hAe : va_A (wX8_refuse cy aN qN aH vN) sz = A) : Met l yX8_refuse wsX8_refuse ({ frames := 0, cells := 0, slots := 0, locals := 0 } : Room) (kPre D cy [.ref aN, .int x1] (wX8_refuse cy aN qN aH vN) sz) (kQi D cy zr A (wX8_refuse cy aN qN aH z_vN)) 0 0 A := by
  refine Met.ofW (cc := cX8_refuse) (maxL := 2) (ret := (some .int)) (by decide) rfl ?_
  intro p e s m args below meth c s₁ B hml hv
  obtain ⟨rfl, hsz, hP, hK, hD0, hN⟩ := hv
  have hx := B.exec
  have hb := B.bytes
  have hr := B.returns
  have ht0 : ∀ w ∈ W0, w.before _ s = true := fun w h => atoms_spec (ws := wsX8_refuse) B.pre w (List.mem_cons_of_mem _ h)
  have hown : s.vm.findClass RX8 = some m.cls := findClass_of_methodNamed B.named
  have hlocks := B.notSynchronized
  subst hsz
  have hD : va_D A (wX8_refuse cy aN qN aH vN) := by rw [← hAe]; exact hD0.self
  have hA : ∀ q : Nat, s.heap.size ≤ q → A q := fun q h => by rw [← hAe]; exact Or.inr h
  have hS : va_S A s.heap s.heap [] := va_S.rf
  have hl := lv_entry ([.ref aN, .int x1]) (n := 2) (Nat.le_of_ble_eq_true rfl)
  rw [lg_entry_eq]
  generalize (lg_sl ([.ref aN, .int x1]) ++ List.replicate (2 - (lg_sl ([.ref aN, .int x1])).length) Slot.unset).toArray = ls at hl ⊢
  have hl : lv_has ls 2 [(0, .ref aN), (1, .int x1)] := hl
  unfold fX8_refuse at hok
  obtain ⟨H, hH⟩ : ∃ H, H = s.heap := ⟨_, rfl⟩
  obtain ⟨locs, hlc⟩ : ∃ x : List Loc, x = [] := ⟨_, rfl⟩
  have hP : va_P D vwCl (wX8_refuse cy aN qN aH vN) H := by rw [hH]; exact hP
  have hS : va_S A s.heap H locs := by rw [hH, hlc]; exact hS
  rw [show W p l e _ s m _ below meth c s.heap [] = W p l e _ s m _ below meth c H locs from by rw [hH, hlc]]
  refine lv_aload_n hx hb dX8_refuse_0 rfl (lv_at hl 0 rfl) ?_
  refine lv_iload_n hx hb dX8_refuse_1 rfl (lv_at hl 1 rfl) ?_
  refine va_put (D := D) (ci := 7) (v := .int x1) (ty := .int) (C := RX8) (T := TX8) (N := 9) hx hb ht0 niX8 tyX8 tyX8_ok nmX8 hown hK hP hD hS 0 rfl rfl 6 (by decide) (ht0 _ wd503) (fun _ h9 => h9) rfl (by decide +kernel) rfl rfl (Nat.le_of_ble_eq_true rfl) dX8_refuse_2 (fun H locs hP hD hS => ?_)
  have hP : va_P D vwCl (wX8_refuse cy aN qN aH (upd vN 6 x1)) H := hP
  have hD : va_D A (wX8_refuse cy aN qN aH (upd vN 6 x1)) := hD
  refine lv_iconst (v := -1) hx hb dX8_refuse_5 (by decide) ?_
  cases hok
  exact W.iret hx hb hr (fun t ht hW => ⟨⟨_, (), rfl, rfl, by rw [ht]; exact hP, va_K.moved hW.alike hK, hD⟩, hS.F ht⟩) hS.2.2 dX8_refuse_6
def wsX8_answer : List Cond := .code yX8_answer cX8_answer 2 (some .int) :: W0
abbrev wX8_answer (cy : Nat → ClassId) (aN : Nat) (qN : Nat → Nat) (aH : Nat) (vN : Nat → Int32) : va_W := [(aN, oX8 vN qN aH)]
set_option maxHeartbeats 4000000 in
set_option maxRecDepth 100000 in
theorem kX8_answer (l : Launch) (D : va_G) (cy : Nat → ClassId) (sz : Nat) (aN : Nat) (qN : Nat → Nat) (aH : Nat) (vN : Nat → Int32) (x1 : Int32) (zr : Int32) (z_vN : Nat → Int32) (hok : fX8_answer vN x1 = some (zr, z_vN)) (A : Nat → Prop) (hAe : va_A (wX8_answer cy aN qN aH vN) sz = A) : Met l yX8_answer wsX8_answer ({ frames := 0, cells := 0, slots := 0, locals := 0 } : Room) (kPre D cy [.ref aN, .int x1] (wX8_answer cy aN qN aH vN) sz) (kQi D cy zr A (wX8_answer cy aN qN aH z_vN)) 0 0 A := by
  refine Met.ofW (cc := cX8_answer) (maxL := 2) (ret := (some .int)) (by decide) rfl ?_
  intro p e s m args below meth c s₁ B hml hv
  obtain ⟨rfl, hsz, hP, hK, hD0, hN⟩ := hv
  have hx := B.exec
  have hb := B.bytes
  have hr := B.returns
  have ht0 : ∀ w ∈ W0, w.before _ s = true := fun w h => atoms_spec (ws := wsX8_answer) B.pre w (List.mem_cons_of_mem _ h)
  have hown : s.vm.findClass RX8 = some m.cls := findClass_of_methodNamed B.named
  have hlocks := B.notSynchronized
  subst hsz
  have hD : va_D A (wX8_answer cy aN qN aH vN) := by rw [← hAe]; exact hD0.self
  have hA : ∀ q : Nat, s.heap.size ≤ q → A q := fun q h => by rw [← hAe]; exact Or.inr h
  have hS : va_S A s.heap s.heap [] := va_S.rf
  have hl := lv_entry ([.ref aN, .int x1]) (n := 2) (Nat.le_of_ble_eq_true rfl)
  rw [lg_entry_eq]
  generalize (lg_sl ([.ref aN, .int x1]) ++ List.replicate (2 - (lg_sl ([.ref aN, .int x1])).length) Slot.unset).toArray = ls at hl ⊢
  have hl : lv_has ls 2 [(0, .ref aN), (1, .int x1)] := hl
  unfold fX8_answer at hok
  obtain ⟨H, hH⟩ : ∃ H, H = s.heap := ⟨_, rfl⟩
  obtain ⟨locs, hlc⟩ : ∃ x : List Loc, x = [] := ⟨_, rfl⟩
  have hP : va_P D vwCl (wX8_answer cy aN qN aH vN) H := by rw [hH]; exact hP
  have hS : va_S A s.heap H locs := by rw [hH, hlc]; exact hS
  rw [show W p l e _ s m _ below meth c s.heap [] = W p l e _ s m _ below meth c H locs from by rw [hH, hlc]]
  refine lv_aload_n hx hb dX8_answer_0 rfl (lv_at hl 0 rfl) ?_
  refine lv_iconst (v := 0) hx hb dX8_answer_1 (by decide) ?_
  refine va_put (D := D) (ci := 7) (v := .int 0) (ty := .int) (C := RX8) (T := TX8) (N := 9) hx hb ht0 niX8 tyX8 tyX8_ok nmX8 hown hK hP hD hS 0 rfl rfl 6 (by decide) (ht0 _ wd503) (fun _ h9 => h9) rfl (by decide +kernel) rfl rfl (Nat.le_of_ble_eq_true rfl) dX8_answer_2 (fun H locs hP hD hS => ?_)
  have hP : va_P D vwCl (wX8_answer cy aN qN aH (upd vN 6 (0 : Int32))) H := hP
  have hD : va_D A (wX8_answer cy aN qN aH (upd vN 6 (0 : Int32))) := hD
  refine lv_iload_n hx hb dX8_answer_5 rfl (lv_at hl 1 rfl) ?_
  cases hok
  exact W.iret hx hb hr (fun t ht hW => ⟨⟨_, (), rfl, rfl, by rw [ht]; exact hP, va_K.moved hW.alike hK, hD⟩, hS.F ht⟩) hS.2.2 dX8_answer_6
def wsX8_house : List Cond := .code yX8_house cX8_house 3 (some .int) :: W0
abbrev wX8_house (cy : Nat → ClassId) (aN : Nat) (qN : Nat → Nat) (aH : Nat) (qR : Nat → Nat) (aH0 : Nat) (qH : Nat → Nat) (qU : Nat → Nat) (qD : Nat → Nat) (qB : Nat → Nat) (vN : Nat → Int32) (vR_j11 : Int64) (vR : Nat → Int32) (vH : Nat → Int32) (vU : Nat → Int32) (vH_next : Nat → Int32) (vH_width : Nat → Int32) (vR_tape : Nat → Int32) (vH_markNights : Nat → Int32) (vH_markPlaces : Nat → Int32) (vH_markFound : Nat → Int32) (vR_thingNames : Nat → Int64) (vR_ringNames : Nat → Int64) (vH_places : Nat → Int32) (vU_things : Nat → Int32) (vU_cells : Nat → Int32) (vU_nights : Nat → Int32) (vU_worths : Nat → Int32) (vH_firstCells : Nat → Int32) (vH_kinds : Nat → Int32) (vH_sizes : Nat → Int32) (vH_doorOne : Nat → Int32) (vH_doorTwo : Nat → Int32) (vH_sorts : Nat → Int32) (vD : Nat → Int32) (vD_now : Nat → Int32) (vB : Nat → Int32) (vB_ruleNumbers : Nat → Int32) : va_W := [(aN, oX8 vN qN aH), (qN 0, oX5 vR qR vR_j11 aH0), (aH0, oX4 vH qH), (qH 7, oX7 vU qU), (qH 10, rI cy 36 vH_next), (qH 11, rI cy 36 vH_width), (qR 0, rB cy 900 vR_tape), (qH 17, rI cy 6 vH_markNights), (qH 18, rI cy 6 vH_markPlaces), (qH 19, rZ cy 6 vH_markFound), (qR 4, rJ cy 7 vR_thingNames), (qR 3, rJ cy 4 vR_ringNames), (qH 9, rI cy 4 vH_places), (qU 1, rI cy 6 vU_things), (qU 2, rI cy 6 vU_cells), (qU 3, rI cy 6 vU_nights), (qU 4, rI cy 6 vU_worths), (qH 16, rI cy 7 vH_firstCells), (qH 14, rI cy 7 vH_kinds), (qH 15, rI cy 7 vH_sizes), (qH 12, rI cy 5 vH_doorOne), (qH 13, rI cy 5 vH_doorTwo), (qH 8, rI cy 4 vH_sorts), (qN 1, oX1 vD qD), (qD 0, rI cy 9 vD_now), (qN 4, oX0 vB qB), (qB 0, rI cy 572 vB_ruleNumbers)]
set_option maxHeartbeats 4000000 in
set_option maxRecDepth 100000 in
theorem kX8_house (l : Launch) (D : va_G) (cy : Nat → ClassId) (ad : (Nat → Nat) × (Nat → Nat)) (sz : Nat) (aN : Nat) (qN : Nat → Nat) (aH : Nat) (qR : Nat → Nat) (aH0 : Nat) (qH : Nat → Nat) (qU : Nat → Nat) (qD : Nat → Nat) (qB : Nat → Nat) (vN : Nat → Int32) (vR_j11 : Int64) (vR : Nat → Int32) (vH : Nat → Int32) (vU : Nat → Int32) (vH_next : Nat → Int32) (vH_width : Nat → Int32) (vR_tape : Nat → Int32) (vH_markNights : Nat → Int32) (vH_markPlaces : Nat → Int32) (vH_markFound : Nat → Int32) (vR_thingNames : Nat → Int64) (vR_ringNames : Nat → Int64) (vH_places : Nat → Int32) (vU_things : Nat → Int32) (vU_cells : Nat → Int32) (vU_nights : Nat → Int32) (vU_worths : Nat → Int32) (vH_firstCells : Nat → Int32) (vH_kinds : Nat → Int32) (vH_sizes : Nat → Int32) (vH_doorOne : Nat → Int32) (vH_doorTwo : Nat → Int32) (vH_sorts : Nat → Int32) (vD : Nat → Int32) (vD_now : Nat → Int32) (vB : Nat → Int32) (vB_ruleNumbers : Nat → Int32) (x1 : Int32) (zr : Int32) (z_vN : Nat → Int32) (z_vR_j11 : Int64) (z_vR : Nat → Int32) (z_vH : Nat → Int32) (z_vU : Nat → Int32) (z_vH_next : Nat → Int32) (z_vH_width : Nat → Int32) (z_vH_markNights : Nat → Int32) (z_vH_markPlaces : Nat → Int32) (z_vH_markFound : Nat → Int32) (z_vR_thingNames : Nat → Int64) (z_vR_ringNames : Nat → Int64) (z_vH_places : Nat → Int32) (z_vU_things : Nat → Int32) (z_vU_cells : Nat → Int32) (z_vU_nights : Nat → Int32) (z_vU_worths : Nat → Int32) (z_vH_firstCells : Nat → Int32) (z_vH_kinds : Nat → Int32) (z_vH_sizes : Nat → Int32) (z_vH_doorOne : Nat → Int32) (z_vH_doorTwo : Nat → Int32) (z_vH_sorts : Nat → Int32) (z_vD : Nat → Int32) (z_vD_now : Nat → Int32) (z_vB : Nat → Int32) (z_vB_ruleNumbers : Nat → Int32) (z_aH : Nat) (z_aH0 : Nat) (hok : fX8_house aH aH0 vN vR_j11 vR vH vU vH_next vH_width vR_tape vH_markNights vH_markPlaces vH_markFound vR_thingNames vR_ringNames vH_places vU_things vU_cells vU_nights vU_worths vH_firstCells vH_kinds vH_sizes vH_doorOne vH_doorTwo vH_sorts vD vD_now vB vB_ruleNumbers x1 = some (zr, z_vN, z_vR_j11, z_vR, z_vH, z_vU, z_vH_next, z_vH_width, z_vH_markNights, z_vH_markPlaces, z_vH_markFound, z_vR_thingNames, z_vR_ringNames, z_vH_places, z_vU_things, z_vU_cells, z_vU_nights, z_vU_worths, z_vH_firstCells, z_vH_kinds, z_vH_sizes, z_vH_doorOne, z_vH_doorTwo, z_vH_sorts, z_vD, z_vD_now, z_vB, z_vB_ruleNumbers, z_aH, z_aH0)) (A : Nat → Prop) (hAe : va_A (wX8_house cy aN qN aH qR aH0 qH qU qD qB vN vR_j11 vR vH vU vH_next vH_width vR_tape vH_markNights vH_markPlaces vH_markFound vR_thingNames vR_ringNames vH_places vU_things vU_cells vU_nights vU_worths vH_firstCells vH_kinds vH_sizes vH_doorOne vH_doorTwo vH_sorts vD vD_now vB vB_ruleNumbers) sz = A) : Met l yX8_house wsX8_house ({ frames := 10, cells := 0, slots := 0, locals := 222 } : Room) (kPreS D cy ad [.ref aN, .int x1] (wX8_house cy aN qN aH qR aH0 qH qU qD qB vN vR_j11 vR vH vU vH_next vH_width vR_tape vH_markNights vH_markPlaces vH_markFound vR_thingNames vR_ringNames vH_places vU_things vU_cells vU_nights vU_worths vH_firstCells vH_kinds vH_sizes vH_doorOne vH_doorTwo vH_sorts vD vD_now vB vB_ruleNumbers) sz A) (kQi D cy zr A (wX8_house cy aN qN z_aH qR z_aH0 qH qU qD qB z_vN z_vR_j11 z_vR z_vH z_vU z_vH_next z_vH_width vR_tape z_vH_markNights z_vH_markPlaces z_vH_markFound z_vR_thingNames z_vR_ringNames z_vH_places z_vU_things z_vU_cells z_vU_nights z_vU_worths z_vH_firstCells z_vH_kinds z_vH_sizes z_vH_doorOne z_vH_doorTwo z_vH_sorts z_vD z_vD_now z_vB z_vB_ruleNumbers)) 0 0 A := by
  refine Met.ofW (cc := cX8_house) (maxL := 3) (ret := (some .int)) (by decide) rfl ?_
  intro p e s m args below meth c s₁ B hml hv
  obtain ⟨rfl, ⟨hsz, hP, hK, hD0, hN⟩, hSt⟩ := hv
  have hx := B.exec
  have hb := B.bytes
  have hr := B.returns
  have ht0 : ∀ w ∈ W0, w.before _ s = true := fun w h => atoms_spec (ws := wsX8_house) B.pre w (List.mem_cons_of_mem _ h)
  have hown : s.vm.findClass RX8 = some m.cls := findClass_of_methodNamed B.named
  have hlocks := B.notSynchronized
  subst hsz
  have hD : va_D A (wX8_house cy aN qN aH qR aH0 qH qU qD qB vN vR_j11 vR vH vU vH_next vH_width vR_tape vH_markNights vH_markPlaces vH_markFound vR_thingNames vR_ringNames vH_places vU_things vU_cells vU_nights vU_worths vH_firstCells vH_kinds vH_sizes vH_doorOne vH_doorTwo vH_sorts vD vD_now vB vB_ruleNumbers) := by rw [← hAe]; exact hD0.self
  have hA : ∀ q : Nat, s.heap.size ≤ q → A q := fun q h => by rw [← hAe]; exact Or.inr h
  have hS : va_S A s.heap s.heap [] := va_S.rf
  have hl := lv_entry ([.ref aN, .int x1]) (n := 3) (Nat.le_of_ble_eq_true rfl)
  rw [lg_entry_eq]
  generalize (lg_sl ([.ref aN, .int x1]) ++ List.replicate (3 - (lg_sl ([.ref aN, .int x1])).length) Slot.unset).toArray = ls at hl ⊢
  have hl : lv_has ls 3 [(0, .ref aN), (1, .int x1)] := hl
  generalize hQe : MQ below (kQi D cy zr A (wX8_house cy aN qN z_aH qR z_aH0 qH qU qD qB z_vN z_vR_j11 z_vR z_vH z_vU z_vH_next z_vH_width vR_tape z_vH_markNights z_vH_markPlaces z_vH_markFound z_vR_thingNames z_vR_ringNames z_vH_places z_vU_things z_vU_cells z_vU_nights z_vU_worths z_vH_firstCells z_vH_kinds z_vH_sizes z_vH_doorOne z_vH_doorTwo z_vH_sorts z_vD z_vD_now z_vB z_vB_ruleNumbers)) ([.ref aN, .int x1] : List Value).toArray s 0 0 A = Q
  have J15 : ∀ (H : Heap) (locs : List Loc) (ls : Array Slot), va_P D vwCl (wX8_house cy aN qN aH qR aH0 qH qU qD qB vN vR_j11 vR vH vU vH_next vH_width vR_tape vH_markNights vH_markPlaces vH_markFound vR_thingNames vR_ringNames vH_places vU_things vU_cells vU_nights vU_worths vH_firstCells vH_kinds vH_sizes vH_doorOne vH_doorTwo vH_sorts vD vD_now vB vB_ruleNumbers) H → va_D A (wX8_house cy aN qN aH qR aH0 qH qU qD qB vN vR_j11 vR vH vU vH_next vH_width vR_tape vH_markNights vH_markPlaces vH_markFound vR_thingNames vR_ringNames vH_places vU_things vU_cells vU_nights vU_worths vH_firstCells vH_kinds vH_sizes vH_doorOne vH_doorTwo vH_sorts vD vD_now vB vB_ruleNumbers) → va_S A s.heap H locs → lv_has ls 3 [(0, .ref aN)] → fX8_house_J15 aH aH0 vN vR_j11 vR vH vU vH_next vH_width vH_markNights vH_markPlaces vH_markFound vR_thingNames vR_ringNames vH_places vU_things vU_cells vU_nights vU_worths vH_firstCells vH_kinds vH_sizes vH_doorOne vH_doorTwo vH_sorts vD vD_now vB vB_ruleNumbers = some (zr, z_vN, z_vR_j11, z_vR, z_vH, z_vU, z_vH_next, z_vH_width, z_vH_markNights, z_vH_markPlaces, z_vH_markFound, z_vR_thingNames, z_vR_ringNames, z_vH_places, z_vU_things, z_vU_cells, z_vU_nights, z_vU_worths, z_vH_firstCells, z_vH_kinds, z_vH_sizes, z_vH_doorOne, z_vH_doorTwo, z_vH_sorts, z_vD, z_vD_now, z_vB, z_vB_ruleNumbers, z_aH, z_aH0) → W p l e ({ frames := 10, cells := 0, slots := 0, locals := 222 } : Room) s m ([.ref aN, .int x1] : List Value).toArray below meth c H locs 0 0 Q (F0 m 15 ls []) := by
    intro  H locs ls hP hD hS hl hok
    unfold fX8_house_J15 at hok
    refine lv_aload_n hx hb dX8_house_15 rfl (lv_at hl 0 rfl) ?_
    refine lv_iconst (v := 2) hx hb dX8_house_16 (by decide) ?_
    obtain ⟨⟨r17, vN_17⟩, hc17, hok⟩ := k_bind hok
    try dsimp only at hok
    refine kCi (wc := (wX8_refuse cy aN qN aH vN)) (wc2 := (wX8_refuse cy aN qN aH vN_17)) (wr := [(qN 0, oX5 vR qR vR_j11 aH0), (aH0, oX4 vH qH), (qH 7, oX7 vU qU), (qH 10, rI cy 36 vH_next), (qH 11, rI cy 36 vH_width), (qR 0, rB cy 900 vR_tape), (qH 17, rI cy 6 vH_markNights), (qH 18, rI cy 6 vH_markPlaces), (qH 19, rZ cy 6 vH_markFound), (qR 4, rJ cy 7 vR_thingNames), (qR 3, rJ cy 4 vR_ringNames), (qH 9, rI cy 4 vH_places), (qU 1, rI cy 6 vU_things), (qU 2, rI cy 6 vU_cells), (qU 3, rI cy 6 vU_nights), (qU 4, rI cy 6 vU_worths), (qH 16, rI cy 7 vH_firstCells), (qH 14, rI cy 7 vH_kinds), (qH 15, rI cy 7 vH_sizes), (qH 12, rI cy 5 vH_doorOne), (qH 13, rI cy 5 vH_doorTwo), (qH 8, rI cy 4 vH_sorts), (qN 1, oX1 vD qD), (qD 0, rI cy 9 vD_now), (qN 4, oX0 vB qB), (qB 0, rI cy 572 vB_ruleNumbers)]) (ws2 := (wX8_house cy aN qN aH qR aH0 qH qU qD qB vN_17 vR_j11 vR vH vU vH_next vH_width vR_tape vH_markNights vH_markPlaces vH_markFound vR_thingNames vR_ringNames vH_places vU_things vU_cells vU_nights vU_worths vH_firstCells vH_kinds vH_sizes vH_doorOne vH_doorTwo vH_sorts vD vD_now vB vB_ruleNumbers)) (kRunV (As := [.int 2]) (rest := []) ⟨hx, hb, hml, hown, ht0⟩ (kX8_refuse l D cy _ aN qN aH vN (2 : Int32) r17 vN_17 hc17 _ rfl) (cwV 1 ht0 (gV wd504 wd505 wd506 wd57 wd507) rfl rfl rfl (by decide +kernel) ⟨Nat.le_of_ble_eq_true rfl, Nat.le_of_ble_eq_true rfl⟩) hK hN hP hD [0] rfl (by decide) 0 7 rfl rfl rfl hl.1 rfl (Nat.le_of_ble_eq_true rfl) dX8_house_17 ⟨Nat.zero_le _, Nat.zero_le _⟩) hP hD hS hA [0] [1, 2, 3, 4, 5, 6, 7, 8, 9, 10, 11, 12, 13, 14, 15, 16, 17, 18, 19, 20, 21, 22, 23, 24, 25, 26] rfl rfl (by decide) (by decide) [26, 0, 1, 2, 3, 4, 5, 6, 7, 8, 9, 10, 11, 12, 13, 14, 15, 16, 17, 18, 19, 20, 21, 22, 23, 24, 25] (by decide) rfl rfl (fun H locs hP hD hS => ?_)
    cases hok
    subst hQe; exact W.iret hx hb hr (fun t ht hW => ⟨⟨_, (), rfl, rfl, by rw [ht]; exact hP, va_K.moved hW.alike hK, hD⟩, hS.F ht⟩) hS.2.2 dX8_house_20
  unfold fX8_house at hok
  obtain ⟨H, hH⟩ : ∃ H, H = s.heap := ⟨_, rfl⟩
  obtain ⟨locs, hlc⟩ : ∃ x : List Loc, x = [] := ⟨_, rfl⟩
  have hP : va_P D vwCl (wX8_house cy aN qN aH qR aH0 qH qU qD qB vN vR_j11 vR vH vU vH_next vH_width vR_tape vH_markNights vH_markPlaces vH_markFound vR_thingNames vR_ringNames vH_places vU_things vU_cells vU_nights vU_worths vH_firstCells vH_kinds vH_sizes vH_doorOne vH_doorTwo vH_sorts vD vD_now vB vB_ruleNumbers) H := by rw [hH]; exact hP
  have hS : va_S A s.heap H locs := by rw [hH, hlc]; exact hS
  rw [show W p l e _ s m _ below meth c s.heap [] = W p l e _ s m _ below meth c H locs from by rw [hH, hlc]]
  refine lv_iload_n hx hb dX8_house_0 rfl (lv_at hl 1 rfl) ?_
  refine lv_if_lt (tgt := 15) hx hb dX8_house_1 (by decide) (fun c1 => ?_) (fun c1 => ?_)
  · have hok := k_pos c1 hok
    exact J15  H locs ls hP hD hS (lv_sub hl [0] rfl) hok
  · have hok := k_neg c1 hok
    refine lv_iload_n hx hb dX8_house_4 rfl (lv_at hl 1 rfl) ?_
    refine lv_aload_n hx hb dX8_house_5 rfl (lv_at hl 0 rfl) ?_
    refine va_get (D := D) (ci := 7) (v := .ref (qN 0)) (C := RX8) (T := TX8) (N := 9) hx hb ht0 niX8 hown hK hP 0 rfl rfl 0 (by decide) (ht0 _ wd490) (fun _ h9 => h9) rfl dX8_house_6 ?_
    obtain ⟨r9, hc9, hok⟩ := k_bind hok
    refine kCi (wc := (wX5_count cy (qN 0) qR aH0 vR_j11 vR)) (wc2 := (wX5_count cy (qN 0) qR aH0 vR_j11 vR)) (wr := [(aN, oX8 vN qN aH), (aH0, oX4 vH qH), (qH 7, oX7 vU qU), (qH 10, rI cy 36 vH_next), (qH 11, rI cy 36 vH_width), (qR 0, rB cy 900 vR_tape), (qH 17, rI cy 6 vH_markNights), (qH 18, rI cy 6 vH_markPlaces), (qH 19, rZ cy 6 vH_markFound), (qR 4, rJ cy 7 vR_thingNames), (qR 3, rJ cy 4 vR_ringNames), (qH 9, rI cy 4 vH_places), (qU 1, rI cy 6 vU_things), (qU 2, rI cy 6 vU_cells), (qU 3, rI cy 6 vU_nights), (qU 4, rI cy 6 vU_worths), (qH 16, rI cy 7 vH_firstCells), (qH 14, rI cy 7 vH_kinds), (qH 15, rI cy 7 vH_sizes), (qH 12, rI cy 5 vH_doorOne), (qH 13, rI cy 5 vH_doorTwo), (qH 8, rI cy 4 vH_sorts), (qN 1, oX1 vD qD), (qD 0, rI cy 9 vD_now), (qN 4, oX0 vB qB), (qB 0, rI cy 572 vB_ruleNumbers)]) (ws2 := (wX8_house cy aN qN aH qR aH0 qH qU qD qB vN vR_j11 vR vH vU vH_next vH_width vR_tape vH_markNights vH_markPlaces vH_markFound vR_thingNames vR_ringNames vH_places vU_things vU_cells vU_nights vU_worths vH_firstCells vH_kinds vH_sizes vH_doorOne vH_doorTwo vH_sorts vD vD_now vB vB_ruleNumbers)) (kRunV (As := []) (rest := [.int x1]) ⟨hx, hb, hml, hown, ht0⟩ (kX5_count l D cy _ (qN 0) qR aH0 vR_j11 vR r9 hc9 _ rfl) (cwV 0 ht0 (gV wd499 wd500 wd501 wd276 wd502) rfl rfl rfl (by decide +kernel) ⟨Nat.le_of_ble_eq_true rfl, Nat.le_of_ble_eq_true rfl⟩) hK hN hP hD [1] rfl (by decide) 1 4 rfl rfl rfl hl.1 rfl (Nat.le_of_ble_eq_true rfl) dX8_house_9 ⟨Nat.zero_le _, Nat.zero_le _⟩) hP hD hS hA [1] [0, 2, 3, 4, 5, 6, 7, 8, 9, 10, 11, 12, 13, 14, 15, 16, 17, 18, 19, 20, 21, 22, 23, 24, 25, 26] rfl rfl (by decide) (by decide) [0, 26, 1, 2, 3, 4, 5, 6, 7, 8, 9, 10, 11, 12, 13, 14, 15, 16, 17, 18, 19, 20, 21, 22, 23, 24, 25] (by decide) rfl rfl (fun H locs hP hD hS => ?_)
    refine lv_icmp_le (tgt := 21) hx hb dX8_house_12 (by decide) (fun c12 => ?_) (fun c12 => ?_)
    · have hok := k_pos c12 hok
      refine lv_aload_n hx hb dX8_house_21 rfl (lv_at hl 0 rfl) ?_
      refine va_get (D := D) (ci := 7) (v := .ref (qN 0)) (C := RX8) (T := TX8) (N := 9) hx hb ht0 niX8 hown hK hP 0 rfl rfl 0 (by decide) (ht0 _ wd490) (fun _ h9 => h9) rfl dX8_house_22 ?_
      refine lv_iload_n hx hb dX8_house_25 rfl (lv_at hl 1 rfl) ?_
      obtain ⟨⟨r26, vR_j11_26, vR_26, vH_26, vU_26, vH_next_26, vH_width_26, vH_markNights_26, vH_markPlaces_26, vH_markFound_26, vR_thingNames_26, vR_ringNames_26, vH_places_26, vU_things_26, vU_cells_26, vU_nights_26, vU_worths_26, vH_firstCells_26, vH_kinds_26, vH_sizes_26, vH_doorOne_26, vH_doorTwo_26, vH_sorts_26⟩, hc26, hok⟩ := k_bind hok
      try dsimp only at hok
      refine kCi (wc := (wX5_read cy (qN 0) qR aH0 qH qU vR_j11 vR vH vU vH_next vH_width vR_tape vH_markNights vH_markPlaces vH_markFound vR_thingNames vR_ringNames vH_places vU_things vU_cells vU_nights vU_worths vH_firstCells vH_kinds vH_sizes vH_doorOne vH_doorTwo vH_sorts)) (wc2 := (wX5_read cy (qN 0) qR aH0 qH qU vR_j11_26 vR_26 vH_26 vU_26 vH_next_26 vH_width_26 vR_tape vH_markNights_26 vH_markPlaces_26 vH_markFound_26 vR_thingNames_26 vR_ringNames_26 vH_places_26 vU_things_26 vU_cells_26 vU_nights_26 vU_worths_26 vH_firstCells_26 vH_kinds_26 vH_sizes_26 vH_doorOne_26 vH_doorTwo_26 vH_sorts_26)) (wr := [(aN, oX8 vN qN aH), (qN 1, oX1 vD qD), (qD 0, rI cy 9 vD_now), (qN 4, oX0 vB qB), (qB 0, rI cy 572 vB_ruleNumbers)]) (ws2 := (wX8_house cy aN qN aH qR aH0 qH qU qD qB vN vR_j11_26 vR_26 vH_26 vU_26 vH_next_26 vH_width_26 vR_tape vH_markNights_26 vH_markPlaces_26 vH_markFound_26 vR_thingNames_26 vR_ringNames_26 vH_places_26 vU_things_26 vU_cells_26 vU_nights_26 vU_worths_26 vH_firstCells_26 vH_kinds_26 vH_sizes_26 vH_doorOne_26 vH_doorTwo_26 vH_sorts_26 vD vD_now vB vB_ruleNumbers)) (kRunVS (As := [.int x1]) (rest := []) ⟨hx, hb, hml, hown, ht0⟩ (kX5_read l D cy ad _ (qN 0) qR aH0 qH qU vR_j11 vR vH vU vH_next vH_width vR_tape vH_markNights vH_markPlaces vH_markFound vR_thingNames vR_ringNames vH_places vU_things vU_cells vU_nights vU_worths vH_firstCells vH_kinds vH_sizes vH_doorOne vH_doorTwo vH_sorts x1 r26 vR_j11_26 vR_26 vH_26 vU_26 vH_next_26 vH_width_26 vH_markNights_26 vH_markPlaces_26 vH_markFound_26 vR_thingNames_26 vR_ringNames_26 vH_places_26 vU_things_26 vU_cells_26 vU_nights_26 vU_worths_26 vH_firstCells_26 vH_kinds_26 vH_sizes_26 vH_doorOne_26 vH_doorTwo_26 vH_sorts_26 hc26 _ rfl) (cwV 1 ht0 (gV wd508 wd509 wd510 wd276 wd511) rfl rfl rfl (by decide +kernel) ⟨Nat.le_of_ble_eq_true rfl, Nat.le_of_ble_eq_true rfl⟩) hK hN hP hD hSt hS hA [1, 2, 3, 4, 5, 6, 7, 8, 9, 10, 11, 12, 13, 14, 15, 16, 17, 18, 19, 20, 21, 22] rfl (by decide) 1 4 rfl rfl rfl hl.1 rfl (Nat.le_of_ble_eq_true rfl) dX8_house_26 ⟨Nat.zero_le _, Nat.zero_le _⟩) hP hD hS hA [1, 2, 3, 4, 5, 6, 7, 8, 9, 10, 11, 12, 13, 14, 15, 16, 17, 18, 19, 20, 21, 22] [0, 23, 24, 25, 26] rfl rfl (by decide) (by decide) [0, 5, 6, 7, 8, 9, 10, 11, 12, 13, 14, 15, 16, 17, 18, 19, 20, 21, 22, 23, 24, 25, 26, 1, 2, 3, 4] (by decide) rfl rfl (fun H locs hP hD hS => ?_)
      refine lv_istore_n (lv' := [(2, .int r26), (0, .ref aN), (1, .int x1)]) hx hb dX8_house_29 rfl hl (by decide) rfl (fun ls hl => ?_)
      refine lv_aload_n hx hb dX8_house_30 rfl (lv_at hl 1 rfl) ?_
      refine lv_aload_n hx hb dX8_house_31 rfl (lv_at hl 1 rfl) ?_
      refine va_get (D := D) (ci := 7) (v := .ref (qN 0)) (C := RX8) (T := TX8) (N := 9) hx hb ht0 niX8 hown hK hP 0 rfl rfl 0 (by decide) (ht0 _ wd490) (fun _ h9 => h9) rfl dX8_house_32 ?_
      obtain ⟨r35, hc35, hok⟩ := k_bind hok
      refine kCi (wc := (wX5_faultFound cy (qN 0) qR aH0 vR_j11_26 vR_26)) (wc2 := (wX5_faultFound cy (qN 0) qR aH0 vR_j11_26 vR_26)) (wr := [(aN, oX8 vN qN aH), (aH0, oX4 vH_26 qH), (qH 7, oX7 vU_26 qU), (qH 10, rI cy 36 vH_next_26), (qH 11, rI cy 36 vH_width_26), (qR 0, rB cy 900 vR_tape), (qH 17, rI cy 6 vH_markNights_26), (qH 18, rI cy 6 vH_markPlaces_26), (qH 19, rZ cy 6 vH_markFound_26), (qR 4, rJ cy 7 vR_thingNames_26), (qR 3, rJ cy 4 vR_ringNames_26), (qH 9, rI cy 4 vH_places_26), (qU 1, rI cy 6 vU_things_26), (qU 2, rI cy 6 vU_cells_26), (qU 3, rI cy 6 vU_nights_26), (qU 4, rI cy 6 vU_worths_26), (qH 16, rI cy 7 vH_firstCells_26), (qH 14, rI cy 7 vH_kinds_26), (qH 15, rI cy 7 vH_sizes_26), (qH 12, rI cy 5 vH_doorOne_26), (qH 13, rI cy 5 vH_doorTwo_26), (qH 8, rI cy 4 vH_sorts_26), (qN 1, oX1 vD qD), (qD 0, rI cy 9 vD_now), (qN 4, oX0 vB qB), (qB 0, rI cy 572 vB_ruleNumbers)]) (ws2 := (wX8_house cy aN qN aH qR aH0 qH qU qD qB vN vR_j11_26 vR_26 vH_26 vU_26 vH_next_26 vH_width_26 vR_tape vH_markNights_26 vH_markPlaces_26 vH_markFound_26 vR_thingNames_26 vR_ringNames_26 vH_places_26 vU_things_26 vU_cells_26 vU_nights_26 vU_worths_26 vH_firstCells_26 vH_kinds_26 vH_sizes_26 vH_doorOne_26 vH_doorTwo_26 vH_sorts_26 vD vD_now vB vB_ruleNumbers)) (kRunV (As := []) (rest := [.ref aN]) ⟨hx, hb, hml, hown, ht0⟩ (kX5_faultFound l D cy _ (qN 0) qR aH0 vR_j11_26 vR_26 r35 hc35 _ rfl) (cwV 0 ht0 (gV wd512 wd513 wd514 wd276 wd515) rfl rfl rfl (by decide +kernel) ⟨Nat.le_of_ble_eq_true rfl, Nat.le_of_ble_eq_true rfl⟩) hK hN hP hD [1] rfl (by decide) 1 4 rfl rfl rfl hl.1 rfl (Nat.le_of_ble_eq_true rfl) dX8_house_35 ⟨Nat.zero_le _, Nat.zero_le _⟩) hP hD hS hA [1] [0, 2, 3, 4, 5, 6, 7, 8, 9, 10, 11, 12, 13, 14, 15, 16, 17, 18, 19, 20, 21, 22, 23, 24, 25, 26] rfl rfl (by decide) (by decide) [0, 26, 1, 2, 3, 4, 5, 6, 7, 8, 9, 10, 11, 12, 13, 14, 15, 16, 17, 18, 19, 20, 21, 22, 23, 24, 25] (by decide) rfl rfl (fun H locs hP hD hS => ?_)
      refine va_put (D := D) (ci := 7) (v := .int r35) (ty := .int) (C := RX8) (T := TX8) (N := 9) hx hb ht0 niX8 tyX8 tyX8_ok nmX8 hown hK hP hD hS 0 rfl rfl 7 (by decide) (ht0 _ wd516) (fun _ h9 => h9) rfl (by decide +kernel) rfl rfl (Nat.le_of_ble_eq_true rfl) dX8_house_38 (fun H locs hP hD hS => ?_)
      have hP : va_P D vwCl (wX8_house cy aN qN aH qR aH0 qH qU qD qB (upd vN 7 r35) vR_j11_26 vR_26 vH_26 vU_26 vH_next_26 vH_width_26 vR_tape vH_markNights_26 vH_markPlaces_26 vH_markFound_26 vR_thingNames_26 vR_ringNames_26 vH_places_26 vU_things_26 vU_cells_26 vU_nights_26 vU_worths_26 vH_firstCells_26 vH_kinds_26 vH_sizes_26 vH_doorOne_26 vH_doorTwo_26 vH_sorts_26 vD vD_now vB vB_ruleNumbers) H := hP
      have hD : va_D A (wX8_house cy aN qN aH qR aH0 qH qU qD qB (upd vN 7 r35) vR_j11_26 vR_26 vH_26 vU_26 vH_next_26 vH_width_26 vR_tape vH_markNights_26 vH_markPlaces_26 vH_markFound_26 vR_thingNames_26 vR_ringNames_26 vH_places_26 vU_things_26 vU_cells_26 vU_nights_26 vU_worths_26 vH_firstCells_26 vH_kinds_26 vH_sizes_26 vH_doorOne_26 vH_doorTwo_26 vH_sorts_26 vD vD_now vB vB_ruleNumbers) := hD
      refine lv_aload_n hx hb dX8_house_41 rfl (lv_at hl 1 rfl) ?_
      refine lv_aload_n hx hb dX8_house_42 rfl (lv_at hl 1 rfl) ?_
      refine va_get (D := D) (ci := 7) (v := .ref (qN 0)) (C := RX8) (T := TX8) (N := 9) hx hb ht0 niX8 hown hK hP 0 rfl rfl 0 (by decide) (ht0 _ wd490) (fun _ h9 => h9) rfl dX8_house_43 ?_
      obtain ⟨r46, hc46, hok⟩ := k_bind hok
      refine kCi (wc := (wX5_faultStart cy (qN 0) qR aH0 vR_j11_26 vR_26)) (wc2 := (wX5_faultStart cy (qN 0) qR aH0 vR_j11_26 vR_26)) (wr := [(aN, oX8 (upd vN 7 r35) qN aH), (aH0, oX4 vH_26 qH), (qH 7, oX7 vU_26 qU), (qH 10, rI cy 36 vH_next_26), (qH 11, rI cy 36 vH_width_26), (qR 0, rB cy 900 vR_tape), (qH 17, rI cy 6 vH_markNights_26), (qH 18, rI cy 6 vH_markPlaces_26), (qH 19, rZ cy 6 vH_markFound_26), (qR 4, rJ cy 7 vR_thingNames_26), (qR 3, rJ cy 4 vR_ringNames_26), (qH 9, rI cy 4 vH_places_26), (qU 1, rI cy 6 vU_things_26), (qU 2, rI cy 6 vU_cells_26), (qU 3, rI cy 6 vU_nights_26), (qU 4, rI cy 6 vU_worths_26), (qH 16, rI cy 7 vH_firstCells_26), (qH 14, rI cy 7 vH_kinds_26), (qH 15, rI cy 7 vH_sizes_26), (qH 12, rI cy 5 vH_doorOne_26), (qH 13, rI cy 5 vH_doorTwo_26), (qH 8, rI cy 4 vH_sorts_26), (qN 1, oX1 vD qD), (qD 0, rI cy 9 vD_now), (qN 4, oX0 vB qB), (qB 0, rI cy 572 vB_ruleNumbers)]) (ws2 := (wX8_house cy aN qN aH qR aH0 qH qU qD qB (upd vN 7 r35) vR_j11_26 vR_26 vH_26 vU_26 vH_next_26 vH_width_26 vR_tape vH_markNights_26 vH_markPlaces_26 vH_markFound_26 vR_thingNames_26 vR_ringNames_26 vH_places_26 vU_things_26 vU_cells_26 vU_nights_26 vU_worths_26 vH_firstCells_26 vH_kinds_26 vH_sizes_26 vH_doorOne_26 vH_doorTwo_26 vH_sorts_26 vD vD_now vB vB_ruleNumbers)) (kRunV (As := []) (rest := [.ref aN]) ⟨hx, hb, hml, hown, ht0⟩ (kX5_faultStart l D cy _ (qN 0) qR aH0 vR_j11_26 vR_26 r46 hc46 _ rfl) (cwV 0 ht0 (gV wd517 wd518 wd519 wd276 wd520) rfl rfl rfl (by decide +kernel) ⟨Nat.le_of_ble_eq_true rfl, Nat.le_of_ble_eq_true rfl⟩) hK hN hP hD [1] rfl (by decide) 1 4 rfl rfl rfl hl.1 rfl (Nat.le_of_ble_eq_true rfl) dX8_house_46 ⟨Nat.zero_le _, Nat.zero_le _⟩) hP hD hS hA [1] [0, 2, 3, 4, 5, 6, 7, 8, 9, 10, 11, 12, 13, 14, 15, 16, 17, 18, 19, 20, 21, 22, 23, 24, 25, 26] rfl rfl (by decide) (by decide) [0, 26, 1, 2, 3, 4, 5, 6, 7, 8, 9, 10, 11, 12, 13, 14, 15, 16, 17, 18, 19, 20, 21, 22, 23, 24, 25] (by decide) rfl rfl (fun H locs hP hD hS => ?_)
      refine va_put (D := D) (ci := 7) (v := .int r46) (ty := .int) (C := RX8) (T := TX8) (N := 9) hx hb ht0 niX8 tyX8 tyX8_ok nmX8 hown hK hP hD hS 0 rfl rfl 8 (by decide) (ht0 _ wd521) (fun _ h9 => h9) rfl (by decide +kernel) rfl rfl (Nat.le_of_ble_eq_true rfl) dX8_house_49 (fun H locs hP hD hS => ?_)
      have hP : va_P D vwCl (wX8_house cy aN qN aH qR aH0 qH qU qD qB (upd (upd vN 7 r35) 8 r46) vR_j11_26 vR_26 vH_26 vU_26 vH_next_26 vH_width_26 vR_tape vH_markNights_26 vH_markPlaces_26 vH_markFound_26 vR_thingNames_26 vR_ringNames_26 vH_places_26 vU_things_26 vU_cells_26 vU_nights_26 vU_worths_26 vH_firstCells_26 vH_kinds_26 vH_sizes_26 vH_doorOne_26 vH_doorTwo_26 vH_sorts_26 vD vD_now vB vB_ruleNumbers) H := hP
      have hD : va_D A (wX8_house cy aN qN aH qR aH0 qH qU qD qB (upd (upd vN 7 r35) 8 r46) vR_j11_26 vR_26 vH_26 vU_26 vH_next_26 vH_width_26 vR_tape vH_markNights_26 vH_markPlaces_26 vH_markFound_26 vR_thingNames_26 vR_ringNames_26 vH_places_26 vU_things_26 vU_cells_26 vU_nights_26 vU_worths_26 vH_firstCells_26 vH_kinds_26 vH_sizes_26 vH_doorOne_26 vH_doorTwo_26 vH_sorts_26 vD vD_now vB vB_ruleNumbers) := hD
      refine lv_iload_n hx hb dX8_house_52 rfl (lv_at hl 0 rfl) ?_
      refine lv_if_ne (tgt := 62) hx hb dX8_house_53 (by decide) (fun c53 => ?_) (fun c53 => ?_)
      · have hok := k_neg c53 hok
        refine lv_aload_n hx hb dX8_house_62 rfl (lv_at hl 1 rfl) ?_
        refine lv_aload_n hx hb dX8_house_63 rfl (lv_at hl 1 rfl) ?_
        refine va_get (D := D) (ci := 7) (v := .ref (qN 0)) (C := RX8) (T := TX8) (N := 9) hx hb ht0 niX8 hown hK hP 0 rfl rfl 0 (by decide) (ht0 _ wd490) (fun _ h9 => h9) rfl dX8_house_64 ?_
        refine lv_aload_n hx hb dX8_house_67 rfl (lv_at hl 1 rfl) ?_
        refine va_get (D := D) (ci := 7) (v := .ref aH) (C := RX8) (T := TX8) (N := 9) hx hb ht0 niX8 hown hK hP 0 rfl rfl 5 (by decide) (ht0 _ wd522) (fun _ h9 => h9) rfl dX8_house_68 ?_
        obtain ⟨u71, hc71, hok⟩ := k_bind hok
        try dsimp only at hok
        refine kCr (wc := (wX5_exchange cy (qN 0) aH qR aH0 vR_j11_26 vR_26)) (wc2 := (wX5_exchange cy (qN 0) aH qR aH vR_j11_26 vR_26)) (wr := [(aN, oX8 (upd (upd vN 7 r35) 8 r46) qN aH), (aH0, oX4 vH_26 qH), (qH 7, oX7 vU_26 qU), (qH 10, rI cy 36 vH_next_26), (qH 11, rI cy 36 vH_width_26), (qR 0, rB cy 900 vR_tape), (qH 17, rI cy 6 vH_markNights_26), (qH 18, rI cy 6 vH_markPlaces_26), (qH 19, rZ cy 6 vH_markFound_26), (qR 4, rJ cy 7 vR_thingNames_26), (qR 3, rJ cy 4 vR_ringNames_26), (qH 9, rI cy 4 vH_places_26), (qU 1, rI cy 6 vU_things_26), (qU 2, rI cy 6 vU_cells_26), (qU 3, rI cy 6 vU_nights_26), (qU 4, rI cy 6 vU_worths_26), (qH 16, rI cy 7 vH_firstCells_26), (qH 14, rI cy 7 vH_kinds_26), (qH 15, rI cy 7 vH_sizes_26), (qH 12, rI cy 5 vH_doorOne_26), (qH 13, rI cy 5 vH_doorTwo_26), (qH 8, rI cy 4 vH_sorts_26), (qN 1, oX1 vD qD), (qD 0, rI cy 9 vD_now), (qN 4, oX0 vB qB), (qB 0, rI cy 572 vB_ruleNumbers)]) (ws2 := (wX8_house cy aN qN aH qR aH qH qU qD qB (upd (upd vN 7 r35) 8 r46) vR_j11_26 vR_26 vH_26 vU_26 vH_next_26 vH_width_26 vR_tape vH_markNights_26 vH_markPlaces_26 vH_markFound_26 vR_thingNames_26 vR_ringNames_26 vH_places_26 vU_things_26 vU_cells_26 vU_nights_26 vU_worths_26 vH_firstCells_26 vH_kinds_26 vH_sizes_26 vH_doorOne_26 vH_doorTwo_26 vH_sorts_26 vD vD_now vB vB_ruleNumbers)) (kRunV (As := [.ref aH]) (rest := [.ref aN]) ⟨hx, hb, hml, hown, ht0⟩ (kX5_exchange l D cy _ (qN 0) aH qR aH0 vR_j11_26 vR_26 hc71 _ rfl) (cwV 1 ht0 (gV wd523 wd524 wd525 wd276 wd526) rfl rfl rfl (by decide +kernel) ⟨Nat.le_of_ble_eq_true rfl, Nat.le_of_ble_eq_true rfl⟩) hK hN hP hD [1] rfl (by decide) 1 4 rfl rfl rfl hl.1 rfl (Nat.le_of_ble_eq_true rfl) dX8_house_71 ⟨Nat.zero_le _, Nat.zero_le _⟩) hP hD hS hA [1] [0, 2, 3, 4, 5, 6, 7, 8, 9, 10, 11, 12, 13, 14, 15, 16, 17, 18, 19, 20, 21, 22, 23, 24, 25, 26] rfl rfl (by decide) (by decide) [0, 26, 1, 2, 3, 4, 5, 6, 7, 8, 9, 10, 11, 12, 13, 14, 15, 16, 17, 18, 19, 20, 21, 22, 23, 24, 25] (by decide) rfl rfl (fun H locs hP hD hS => ?_)
        refine va_put (D := D) (ci := 7) (v := .ref aH0) (ty := (.object "NightRound$House")) (C := RX8) (T := TX8) (N := 9) hx hb ht0 niX8 tyX8 tyX8_ok nmX8 hown hK hP hD hS 0 rfl rfl 5 (by decide) (ht0 _ wd522) (fun _ h9 => h9) rfl (by decide +kernel) rfl rfl (Nat.le_of_ble_eq_true rfl) dX8_house_74 (fun H locs hP hD hS => ?_)
        have hP : va_P D vwCl (wX8_house cy aN qN aH0 qR aH qH qU qD qB (upd (upd vN 7 r35) 8 r46) vR_j11_26 vR_26 vH_26 vU_26 vH_next_26 vH_width_26 vR_tape vH_markNights_26 vH_markPlaces_26 vH_markFound_26 vR_thingNames_26 vR_ringNames_26 vH_places_26 vU_things_26 vU_cells_26 vU_nights_26 vU_worths_26 vH_firstCells_26 vH_kinds_26 vH_sizes_26 vH_doorOne_26 vH_doorTwo_26 vH_sorts_26 vD vD_now vB vB_ruleNumbers) H := hP
        have hD : va_D A (wX8_house cy aN qN aH0 qR aH qH qU qD qB (upd (upd vN 7 r35) 8 r46) vR_j11_26 vR_26 vH_26 vU_26 vH_next_26 vH_width_26 vR_tape vH_markNights_26 vH_markPlaces_26 vH_markFound_26 vR_thingNames_26 vR_ringNames_26 vH_places_26 vU_things_26 vU_cells_26 vU_nights_26 vU_worths_26 vH_firstCells_26 vH_kinds_26 vH_sizes_26 vH_doorOne_26 vH_doorTwo_26 vH_sorts_26 vD vD_now vB vB_ruleNumbers) := hD
        refine lv_aload_n hx hb dX8_house_77 rfl (lv_at hl 1 rfl) ?_
        refine va_get (D := D) (ci := 7) (v := .ref (qN 1)) (C := RX8) (T := TX8) (N := 9) hx hb ht0 niX8 hown hK hP 0 rfl rfl 1 (by decide) (ht0 _ wd527) (fun _ h9 => h9) rfl dX8_house_78 ?_
        refine lv_aload_n hx hb dX8_house_81 rfl (lv_at hl 1 rfl) ?_
        refine va_get (D := D) (ci := 7) (v := .ref aH0) (C := RX8) (T := TX8) (N := 9) hx hb ht0 niX8 hown hK hP 0 rfl rfl 5 (by decide) (ht0 _ wd522) (fun _ h9 => h9) rfl dX8_house_82 ?_
        obtain ⟨⟨vD_85, vD_now_85⟩, hc85, hok⟩ := k_bind hok
        try dsimp only at hok
        refine kCv (wc := (wX1_begin cy (qN 1) aH0 qD qH vD vD_now vH_26 vH_firstCells_26)) (wc2 := (wX1_begin cy (qN 1) aH0 qD qH vD_85 vD_now_85 vH_26 vH_firstCells_26)) (wr := [(aN, oX8 (upd (upd vN 7 r35) 8 r46) qN aH0), (qN 0, oX5 vR_26 qR vR_j11_26 aH), (qH 7, oX7 vU_26 qU), (qH 10, rI cy 36 vH_next_26), (qH 11, rI cy 36 vH_width_26), (qR 0, rB cy 900 vR_tape), (qH 17, rI cy 6 vH_markNights_26), (qH 18, rI cy 6 vH_markPlaces_26), (qH 19, rZ cy 6 vH_markFound_26), (qR 4, rJ cy 7 vR_thingNames_26), (qR 3, rJ cy 4 vR_ringNames_26), (qH 9, rI cy 4 vH_places_26), (qU 1, rI cy 6 vU_things_26), (qU 2, rI cy 6 vU_cells_26), (qU 3, rI cy 6 vU_nights_26), (qU 4, rI cy 6 vU_worths_26), (qH 14, rI cy 7 vH_kinds_26), (qH 15, rI cy 7 vH_sizes_26), (qH 12, rI cy 5 vH_doorOne_26), (qH 13, rI cy 5 vH_doorTwo_26), (qH 8, rI cy 4 vH_sorts_26), (qN 4, oX0 vB qB), (qB 0, rI cy 572 vB_ruleNumbers)]) (ws2 := (wX8_house cy aN qN aH0 qR aH qH qU qD qB (upd (upd vN 7 r35) 8 r46) vR_j11_26 vR_26 vH_26 vU_26 vH_next_26 vH_width_26 vR_tape vH_markNights_26 vH_markPlaces_26 vH_markFound_26 vR_thingNames_26 vR_ringNames_26 vH_places_26 vU_things_26 vU_cells_26 vU_nights_26 vU_worths_26 vH_firstCells_26 vH_kinds_26 vH_sizes_26 vH_doorOne_26 vH_doorTwo_26 vH_sorts_26 vD_85 vD_now_85 vB vB_ruleNumbers)) (kRunV (As := [.ref aH0]) (rest := []) ⟨hx, hb, hml, hown, ht0⟩ (kX1_begin l D cy _ (qN 1) aH0 qD qH vD vD_now vH_26 vH_firstCells_26 vD_85 vD_now_85 hc85 _ rfl) (cwV 1 ht0 (gV wd528 wd529 wd530 wd74 wd531) rfl rfl rfl (by decide +kernel) ⟨Nat.le_of_ble_eq_true rfl, Nat.le_of_ble_eq_true rfl⟩) hK hN hP hD [23, 24, 2, 17] rfl (by decide) 23 1 rfl rfl rfl hl.1 rfl (Nat.le_of_ble_eq_true rfl) dX8_house_85 ⟨Nat.zero_le _, Nat.zero_le _⟩) hP hD hS hA [23, 24, 2, 17] [0, 1, 3, 4, 5, 6, 7, 8, 9, 10, 11, 12, 13, 14, 15, 16, 18, 19, 20, 21, 22, 25, 26] rfl rfl (by decide) (by decide) [0, 1, 25, 2, 3, 4, 5, 6, 7, 8, 9, 10, 11, 12, 13, 14, 15, 26, 16, 17, 18, 19, 20, 23, 24, 21, 22] (by decide) rfl rfl (fun H locs hP hD hS => ?_)
        refine lv_aload_n hx hb dX8_house_88 rfl (lv_at hl 1 rfl) ?_
        refine va_get (D := D) (ci := 7) (v := .ref (qN 4)) (C := RX8) (T := TX8) (N := 9) hx hb ht0 niX8 hown hK hP 0 rfl rfl 4 (by decide) (ht0 _ wd532) (fun _ h9 => h9) rfl dX8_house_89 ?_
        refine lv_aload_n hx hb dX8_house_92 rfl (lv_at hl 1 rfl) ?_
        refine va_get (D := D) (ci := 7) (v := .ref aH0) (C := RX8) (T := TX8) (N := 9) hx hb ht0 niX8 hown hK hP 0 rfl rfl 5 (by decide) (ht0 _ wd522) (fun _ h9 => h9) rfl dX8_house_93 ?_
        obtain ⟨⟨vB_96, vB_ruleNumbers_96⟩, hc96, hok⟩ := k_bind hok
        try dsimp only at hok
        refine kCv (wc := (wX0_learn cy (qN 4) aH0 qB qH vB vH_26 vH_markNights_26 vH_markPlaces_26 vH_markFound_26 vB_ruleNumbers)) (wc2 := (wX0_learn cy (qN 4) aH0 qB qH vB_96 vH_26 vH_markNights_26 vH_markPlaces_26 vH_markFound_26 vB_ruleNumbers_96)) (wr := [(aN, oX8 (upd (upd vN 7 r35) 8 r46) qN aH0), (qN 0, oX5 vR_26 qR vR_j11_26 aH), (qH 7, oX7 vU_26 qU), (qH 10, rI cy 36 vH_next_26), (qH 11, rI cy 36 vH_width_26), (qR 0, rB cy 900 vR_tape), (qR 4, rJ cy 7 vR_thingNames_26), (qR 3, rJ cy 4 vR_ringNames_26), (qH 9, rI cy 4 vH_places_26), (qU 1, rI cy 6 vU_things_26), (qU 2, rI cy 6 vU_cells_26), (qU 3, rI cy 6 vU_nights_26), (qU 4, rI cy 6 vU_worths_26), (qH 16, rI cy 7 vH_firstCells_26), (qH 14, rI cy 7 vH_kinds_26), (qH 15, rI cy 7 vH_sizes_26), (qH 12, rI cy 5 vH_doorOne_26), (qH 13, rI cy 5 vH_doorTwo_26), (qH 8, rI cy 4 vH_sorts_26), (qN 1, oX1 vD_85 qD), (qD 0, rI cy 9 vD_now_85)]) (ws2 := (wX8_house cy aN qN aH0 qR aH qH qU qD qB (upd (upd vN 7 r35) 8 r46) vR_j11_26 vR_26 vH_26 vU_26 vH_next_26 vH_width_26 vR_tape vH_markNights_26 vH_markPlaces_26 vH_markFound_26 vR_thingNames_26 vR_ringNames_26 vH_places_26 vU_things_26 vU_cells_26 vU_nights_26 vU_worths_26 vH_firstCells_26 vH_kinds_26 vH_sizes_26 vH_doorOne_26 vH_doorTwo_26 vH_sorts_26 vD_85 vD_now_85 vB_96 vB_ruleNumbers_96)) (kRunV (As := [.ref aH0]) (rest := []) ⟨hx, hb, hml, hown, ht0⟩ (kX0_learn l D cy _ (qN 4) aH0 qB qH vB vH_26 vH_markNights_26 vH_markPlaces_26 vH_markFound_26 vB_ruleNumbers vB_96 vB_ruleNumbers_96 hc96 _ rfl) (cwV 1 ht0 (gV wd533 wd534 wd535 wd14 wd536) rfl rfl rfl (by decide +kernel) ⟨Nat.le_of_ble_eq_true rfl, Nat.le_of_ble_eq_true rfl⟩) hK hN hP hD [25, 2, 7, 8, 9, 26] rfl (by decide) 25 0 rfl rfl rfl hl.1 rfl (Nat.le_of_ble_eq_true rfl) dX8_house_96 ⟨Nat.zero_le _, Nat.zero_le _⟩) hP hD hS hA [25, 2, 7, 8, 9, 26] [0, 1, 3, 4, 5, 6, 10, 11, 12, 13, 14, 15, 16, 17, 18, 19, 20, 21, 22, 23, 24] rfl rfl (by decide) (by decide) [0, 1, 22, 2, 3, 4, 5, 23, 24, 25, 6, 7, 8, 9, 10, 11, 12, 13, 14, 15, 16, 17, 18, 19, 20, 21, 26] (by decide) rfl rfl (fun H locs hP hD hS => ?_)
        refine lv_aload_n hx hb dX8_house_99 rfl (lv_at hl 1 rfl) ?_
        refine lv_aload_n hx hb dX8_house_100 rfl (lv_at hl 1 rfl) ?_
        refine va_get (D := D) (ci := 7) (v := .ref aH0) (C := RX8) (T := TX8) (N := 9) hx hb ht0 niX8 hown hK hP 0 rfl rfl 5 (by decide) (ht0 _ wd522) (fun _ h9 => h9) rfl dX8_house_101 ?_
        refine va_get (D := D) (ci := 3) (v := .int (vH_26 2)) (C := RX4) (T := TX4) (N := 20) hx hb ht0 niX4 hown hK hP 2 rfl rfl 2 (by decide) (ht0 _ wd537) (fun _ h9 => h9) rfl dX8_house_104 ?_
        obtain ⟨⟨r107, vN_107⟩, hc107, hok⟩ := k_bind hok
        try dsimp only at hok
        refine kCi (wc := (wX8_answer cy aN qN aH0 (upd (upd vN 7 r35) 8 r46))) (wc2 := (wX8_answer cy aN qN aH0 vN_107)) (wr := [(qN 0, oX5 vR_26 qR vR_j11_26 aH), (aH0, oX4 vH_26 qH), (qH 7, oX7 vU_26 qU), (qH 10, rI cy 36 vH_next_26), (qH 11, rI cy 36 vH_width_26), (qR 0, rB cy 900 vR_tape), (qH 17, rI cy 6 vH_markNights_26), (qH 18, rI cy 6 vH_markPlaces_26), (qH 19, rZ cy 6 vH_markFound_26), (qR 4, rJ cy 7 vR_thingNames_26), (qR 3, rJ cy 4 vR_ringNames_26), (qH 9, rI cy 4 vH_places_26), (qU 1, rI cy 6 vU_things_26), (qU 2, rI cy 6 vU_cells_26), (qU 3, rI cy 6 vU_nights_26), (qU 4, rI cy 6 vU_worths_26), (qH 16, rI cy 7 vH_firstCells_26), (qH 14, rI cy 7 vH_kinds_26), (qH 15, rI cy 7 vH_sizes_26), (qH 12, rI cy 5 vH_doorOne_26), (qH 13, rI cy 5 vH_doorTwo_26), (qH 8, rI cy 4 vH_sorts_26), (qN 1, oX1 vD_85 qD), (qD 0, rI cy 9 vD_now_85), (qN 4, oX0 vB_96 qB), (qB 0, rI cy 572 vB_ruleNumbers_96)]) (ws2 := (wX8_house cy aN qN aH0 qR aH qH qU qD qB vN_107 vR_j11_26 vR_26 vH_26 vU_26 vH_next_26 vH_width_26 vR_tape vH_markNights_26 vH_markPlaces_26 vH_markFound_26 vR_thingNames_26 vR_ringNames_26 vH_places_26 vU_things_26 vU_cells_26 vU_nights_26 vU_worths_26 vH_firstCells_26 vH_kinds_26 vH_sizes_26 vH_doorOne_26 vH_doorTwo_26 vH_sorts_26 vD_85 vD_now_85 vB_96 vB_ruleNumbers_96)) (kRunV (As := [.int (vH_26 2)]) (rest := []) ⟨hx, hb, hml, hown, ht0⟩ (kX8_answer l D cy _ aN qN aH0 (upd (upd vN 7 r35) 8 r46) (vH_26 2) r107 vN_107 hc107 _ rfl) (cwV 1 ht0 (gV wd538 wd539 wd540 wd57 wd541) rfl rfl rfl (by decide +kernel) ⟨Nat.le_of_ble_eq_true rfl, Nat.le_of_ble_eq_true rfl⟩) hK hN hP hD [0] rfl (by decide) 0 7 rfl rfl rfl hl.1 rfl (Nat.le_of_ble_eq_true rfl) dX8_house_107 ⟨Nat.zero_le _, Nat.zero_le _⟩) hP hD hS hA [0] [1, 2, 3, 4, 5, 6, 7, 8, 9, 10, 11, 12, 13, 14, 15, 16, 17, 18, 19, 20, 21, 22, 23, 24, 25, 26] rfl rfl (by decide) (by decide) [26, 0, 1, 2, 3, 4, 5, 6, 7, 8, 9, 10, 11, 12, 13, 14, 15, 16, 17, 18, 19, 20, 21, 22, 23, 24, 25] (by decide) rfl rfl (fun H locs hP hD hS => ?_)
        cases hok
        subst hQe; exact W.iret hx hb hr (fun t ht hW => ⟨⟨_, (), rfl, rfl, by rw [ht]; exact hP, va_K.moved hW.alike hK, hD⟩, hS.F ht⟩) hS.2.2 dX8_house_110
      · have hok := k_pos c53 hok
        refine lv_aload_n hx hb dX8_house_56 rfl (lv_at hl 1 rfl) ?_
        refine lv_iconst (v := 4) hx hb dX8_house_57 (by decide) ?_
        obtain ⟨⟨r58, vN_58⟩, hc58, hok⟩ := k_bind hok
        try dsimp only at hok
        refine kCi (wc := (wX8_refuse cy aN qN aH (upd (upd vN 7 r35) 8 r46))) (wc2 := (wX8_refuse cy aN qN aH vN_58)) (wr := [(qN 0, oX5 vR_26 qR vR_j11_26 aH0), (aH0, oX4 vH_26 qH), (qH 7, oX7 vU_26 qU), (qH 10, rI cy 36 vH_next_26), (qH 11, rI cy 36 vH_width_26), (qR 0, rB cy 900 vR_tape), (qH 17, rI cy 6 vH_markNights_26), (qH 18, rI cy 6 vH_markPlaces_26), (qH 19, rZ cy 6 vH_markFound_26), (qR 4, rJ cy 7 vR_thingNames_26), (qR 3, rJ cy 4 vR_ringNames_26), (qH 9, rI cy 4 vH_places_26), (qU 1, rI cy 6 vU_things_26), (qU 2, rI cy 6 vU_cells_26), (qU 3, rI cy 6 vU_nights_26), (qU 4, rI cy 6 vU_worths_26), (qH 16, rI cy 7 vH_firstCells_26), (qH 14, rI cy 7 vH_kinds_26), (qH 15, rI cy 7 vH_sizes_26), (qH 12, rI cy 5 vH_doorOne_26), (qH 13, rI cy 5 vH_doorTwo_26), (qH 8, rI cy 4 vH_sorts_26), (qN 1, oX1 vD qD), (qD 0, rI cy 9 vD_now), (qN 4, oX0 vB qB), (qB 0, rI cy 572 vB_ruleNumbers)]) (ws2 := (wX8_house cy aN qN aH qR aH0 qH qU qD qB vN_58 vR_j11_26 vR_26 vH_26 vU_26 vH_next_26 vH_width_26 vR_tape vH_markNights_26 vH_markPlaces_26 vH_markFound_26 vR_thingNames_26 vR_ringNames_26 vH_places_26 vU_things_26 vU_cells_26 vU_nights_26 vU_worths_26 vH_firstCells_26 vH_kinds_26 vH_sizes_26 vH_doorOne_26 vH_doorTwo_26 vH_sorts_26 vD vD_now vB vB_ruleNumbers)) (kRunV (As := [.int 4]) (rest := []) ⟨hx, hb, hml, hown, ht0⟩ (kX8_refuse l D cy _ aN qN aH (upd (upd vN 7 r35) 8 r46) (4 : Int32) r58 vN_58 hc58 _ rfl) (cwV 1 ht0 (gV wd504 wd505 wd506 wd57 wd507) rfl rfl rfl (by decide +kernel) ⟨Nat.le_of_ble_eq_true rfl, Nat.le_of_ble_eq_true rfl⟩) hK hN hP hD [0] rfl (by decide) 0 7 rfl rfl rfl hl.1 rfl (Nat.le_of_ble_eq_true rfl) dX8_house_58 ⟨Nat.zero_le _, Nat.zero_le _⟩) hP hD hS hA [0] [1, 2, 3, 4, 5, 6, 7, 8, 9, 10, 11, 12, 13, 14, 15, 16, 17, 18, 19, 20, 21, 22, 23, 24, 25, 26] rfl rfl (by decide) (by decide) [26, 0, 1, 2, 3, 4, 5, 6, 7, 8, 9, 10, 11, 12, 13, 14, 15, 16, 17, 18, 19, 20, 21, 22, 23, 24, 25] (by decide) rfl rfl (fun H locs hP hD hS => ?_)
        cases hok
        subst hQe; exact W.iret hx hb hr (fun t ht hW => ⟨⟨_, (), rfl, rfl, by rw [ht]; exact hP, va_K.moved hW.alike hK, hD⟩, hS.F ht⟩) hS.2.2 dX8_house_61
    · have hok := k_neg c12 hok
      exact J15  H locs ls hP hD hS (lv_sub hl [0] rfl) hok
def wsX8_fault : List Cond := .code yX8_fault cX8_fault 1 (some .int) :: W0
abbrev wX8_fault (cy : Nat → ClassId) (aN : Nat) (qN : Nat → Nat) (aH : Nat) (vN : Nat → Int32) : va_W := [(aN, oX8 vN qN aH)]
set_option maxHeartbeats 4000000 in
set_option maxRecDepth 100000 in
theorem kX8_fault (l : Launch) (D : va_G) (cy : Nat → ClassId) (sz : Nat) (aN : Nat) (qN : Nat → Nat) (aH : Nat) (vN : Nat → Int32) (zr : Int32) (hok : fX8_fault vN = some zr) (A : Nat → Prop) (hAe : va_A (wX8_fault cy aN qN aH vN) sz = A) : Met l yX8_fault wsX8_fault ({ frames := 0, cells := 0, slots := 0, locals := 0 } : Room) (kPre D cy [.ref aN] (wX8_fault cy aN qN aH vN) sz) (kQi D cy zr A (wX8_fault cy aN qN aH vN)) 0 0 A := by
  refine Met.ofW (cc := cX8_fault) (maxL := 1) (ret := (some .int)) (by decide) rfl ?_
  intro p e s m args below meth c s₁ B hml hv
  obtain ⟨rfl, hsz, hP, hK, hD0, hN⟩ := hv
  have hx := B.exec
  have hb := B.bytes
  have hr := B.returns
  have ht0 : ∀ w ∈ W0, w.before _ s = true := fun w h => atoms_spec (ws := wsX8_fault) B.pre w (List.mem_cons_of_mem _ h)
  have hown : s.vm.findClass RX8 = some m.cls := findClass_of_methodNamed B.named
  have hlocks := B.notSynchronized
  subst hsz
  have hD : va_D A (wX8_fault cy aN qN aH vN) := by rw [← hAe]; exact hD0.self
  have hA : ∀ q : Nat, s.heap.size ≤ q → A q := fun q h => by rw [← hAe]; exact Or.inr h
  have hS : va_S A s.heap s.heap [] := va_S.rf
  have hl := lv_entry ([.ref aN]) (n := 1) (Nat.le_of_ble_eq_true rfl)
  rw [lg_entry_eq]
  generalize (lg_sl ([.ref aN]) ++ List.replicate (1 - (lg_sl ([.ref aN])).length) Slot.unset).toArray = ls at hl ⊢
  have hl : lv_has ls 1 [(0, .ref aN)] := hl
  unfold fX8_fault at hok
  obtain ⟨H, hH⟩ : ∃ H, H = s.heap := ⟨_, rfl⟩
  obtain ⟨locs, hlc⟩ : ∃ x : List Loc, x = [] := ⟨_, rfl⟩
  have hP : va_P D vwCl (wX8_fault cy aN qN aH vN) H := by rw [hH]; exact hP
  have hS : va_S A s.heap H locs := by rw [hH, hlc]; exact hS
  rw [show W p l e _ s m _ below meth c s.heap [] = W p l e _ s m _ below meth c H locs from by rw [hH, hlc]]
  refine lv_aload_n hx hb dX8_fault_0 rfl (lv_at hl 0 rfl) ?_
  refine va_get (D := D) (ci := 7) (v := .int (vN 7)) (C := RX8) (T := TX8) (N := 9) hx hb ht0 niX8 hown hK hP 0 rfl rfl 7 (by decide) (ht0 _ wd516) (fun _ h9 => h9) rfl dX8_fault_1 ?_
  cases hok
  exact W.iret hx hb hr (fun t ht hW => ⟨⟨_, (), rfl, rfl, by rw [ht]; exact hP, va_K.moved hW.alike hK, hD⟩, hS.F ht⟩) hS.2.2 dX8_fault_4
def wsX8_where : List Cond := .code yX8_where cX8_where 1 (some .int) :: W0
abbrev wX8_where (cy : Nat → ClassId) (aN : Nat) (qN : Nat → Nat) (aH : Nat) (vN : Nat → Int32) : va_W := [(aN, oX8 vN qN aH)]
set_option maxHeartbeats 4000000 in
set_option maxRecDepth 100000 in
theorem kX8_where (l : Launch) (D : va_G) (cy : Nat → ClassId) (sz : Nat) (aN : Nat) (qN : Nat → Nat) (aH : Nat) (vN : Nat → Int32) (zr : Int32) (hok : fX8_where vN = some zr) (A : Nat → Prop) (hAe : va_A (wX8_where cy aN qN aH vN) sz = A) : Met l yX8_where wsX8_where ({ frames := 0, cells := 0, slots := 0, locals := 0 } : Room) (kPre D cy [.ref aN] (wX8_where cy aN qN aH vN) sz) (kQi D cy zr A (wX8_where cy aN qN aH vN)) 0 0 A := by
  refine Met.ofW (cc := cX8_where) (maxL := 1) (ret := (some .int)) (by decide) rfl ?_
  intro p e s m args below meth c s₁ B hml hv
  obtain ⟨rfl, hsz, hP, hK, hD0, hN⟩ := hv
  have hx := B.exec
  have hb := B.bytes
  have hr := B.returns
  have ht0 : ∀ w ∈ W0, w.before _ s = true := fun w h => atoms_spec (ws := wsX8_where) B.pre w (List.mem_cons_of_mem _ h)
  have hown : s.vm.findClass RX8 = some m.cls := findClass_of_methodNamed B.named
  have hlocks := B.notSynchronized
  subst hsz
  have hD : va_D A (wX8_where cy aN qN aH vN) := by rw [← hAe]; exact hD0.self
  have hA : ∀ q : Nat, s.heap.size ≤ q → A q := fun q h => by rw [← hAe]; exact Or.inr h
  have hS : va_S A s.heap s.heap [] := va_S.rf
  have hl := lv_entry ([.ref aN]) (n := 1) (Nat.le_of_ble_eq_true rfl)
  rw [lg_entry_eq]
  generalize (lg_sl ([.ref aN]) ++ List.replicate (1 - (lg_sl ([.ref aN])).length) Slot.unset).toArray = ls at hl ⊢
  have hl : lv_has ls 1 [(0, .ref aN)] := hl
  generalize hQe : MQ below (kQi D cy zr A (wX8_where cy aN qN aH vN)) ([.ref aN] : List Value).toArray s 0 0 A = Q
  have J16 : ∀ (t0_16 : Int32), ∀ (H : Heap) (locs : List Loc) (ls : Array Slot), va_P D vwCl (wX8_where cy aN qN aH vN) H → va_D A (wX8_where cy aN qN aH vN) → va_S A s.heap H locs → lv_has ls 1 [] → fX8_where_J16 t0_16 = some zr → W p l e ({ frames := 0, cells := 0, slots := 0, locals := 0 } : Room) s m ([.ref aN] : List Value).toArray below meth c H locs 0 0 Q (F0 m 16 ls [.int t0_16]) := by
    intro t0_16 H locs ls hP hD hS hl hok
    unfold fX8_where_J16 at hok
    cases hok
    subst hQe; exact W.iret hx hb hr (fun t ht hW => ⟨⟨_, (), rfl, rfl, by rw [ht]; exact hP, va_K.moved hW.alike hK, hD⟩, hS.F ht⟩) hS.2.2 dX8_where_16
  unfold fX8_where at hok
  obtain ⟨H, hH⟩ : ∃ H, H = s.heap := ⟨_, rfl⟩
  obtain ⟨locs, hlc⟩ : ∃ x : List Loc, x = [] := ⟨_, rfl⟩
  have hP : va_P D vwCl (wX8_where cy aN qN aH vN) H := by rw [hH]; exact hP
  have hS : va_S A s.heap H locs := by rw [hH, hlc]; exact hS
  rw [show W p l e _ s m _ below meth c s.heap [] = W p l e _ s m _ below meth c H locs from by rw [hH, hlc]]
  refine lv_aload_n hx hb dX8_where_0 rfl (lv_at hl 0 rfl) ?_
  refine va_get (D := D) (ci := 7) (v := .int (vN 6)) (C := RX8) (T := TX8) (N := 9) hx hb ht0 niX8 hown hK hP 0 rfl rfl 6 (by decide) (ht0 _ wd503) (fun _ h9 => h9) rfl dX8_where_1 ?_
  refine lv_iconst (v := 4) hx hb dX8_where_4 (by decide) ?_
  refine lv_icmp_ne (tgt := 15) hx hb dX8_where_5 (by decide) (fun c5 => ?_) (fun c5 => ?_)
  · have hok := k_neg c5 hok
    refine lv_iconst (v := -1) hx hb dX8_where_15 (by decide) ?_
    exact J16 (-1 : Int32) H locs ls hP hD hS (lv_sub hl [] rfl) hok
  · have hok := k_pos c5 hok
    refine lv_aload_n hx hb dX8_where_8 rfl (lv_at hl 0 rfl) ?_
    refine va_get (D := D) (ci := 7) (v := .int (vN 8)) (C := RX8) (T := TX8) (N := 9) hx hb ht0 niX8 hown hK hP 0 rfl rfl 8 (by decide) (ht0 _ wd521) (fun _ h9 => h9) rfl dX8_where_9 ?_
    refine lv_goto (tgt := 16) hx hb dX8_where_12 (by decide) ?_
    exact J16 (vN 8) H locs ls hP hD hS (lv_sub hl [] rfl) hok
def wsX8_ring : List Cond := .code yX8_ring cX8_ring 4 (some .int) :: W0
abbrev wX8_ring (cy : Nat → ClassId) (aN : Nat) (qN : Nat → Nat) (aH : Nat) (qH : Nat → Nat) (qD : Nat → Nat) (vN : Nat → Int32) (vH : Nat → Int32) (vD : Nat → Int32) (vD_now : Nat → Int32) (vH_sorts : Nat → Int32) (vH_places : Nat → Int32) : va_W := [(aN, oX8 vN qN aH), (aH, oX4 vH qH), (qN 1, oX1 vD qD), (qD 0, rI cy 9 vD_now), (qH 8, rI cy 4 vH_sorts), (qH 9, rI cy 4 vH_places)]
set_option maxHeartbeats 4000000 in
set_option maxRecDepth 100000 in
theorem kX8_ring (l : Launch) (D : va_G) (cy : Nat → ClassId) (sz : Nat) (aN : Nat) (qN : Nat → Nat) (aH : Nat) (qH : Nat → Nat) (qD : Nat → Nat) (vN : Nat → Int32) (vH : Nat → Int32) (vD : Nat → Int32) (vD_now : Nat → Int32) (vH_sorts : Nat → Int32) (vH_places : Nat → Int32) (x1 : Int32) (x2 : Int32) (zr : Int32) (z_vN : Nat → Int32) (hok : fX8_ring vN vH vD vD_now vH_sorts vH_places x1 x2 = some (zr, z_vN)) (A : Nat → Prop) (hAe : va_A (wX8_ring cy aN qN aH qH qD vN vH vD vD_now vH_sorts vH_places) sz = A) : Met l yX8_ring wsX8_ring ({ frames := 2, cells := 0, slots := 0, locals := 44 } : Room) (kPre D cy [.ref aN, .int x1, .int x2] (wX8_ring cy aN qN aH qH qD vN vH vD vD_now vH_sorts vH_places) sz) (kQi D cy zr A (wX8_ring cy aN qN aH qH qD z_vN vH vD vD_now vH_sorts vH_places)) 0 0 A := by
  refine Met.ofW (cc := cX8_ring) (maxL := 4) (ret := (some .int)) (by decide) rfl ?_
  intro p e s m args below meth c s₁ B hml hv
  obtain ⟨rfl, hsz, hP, hK, hD0, hN⟩ := hv
  have hx := B.exec
  have hb := B.bytes
  have hr := B.returns
  have ht0 : ∀ w ∈ W0, w.before _ s = true := fun w h => atoms_spec (ws := wsX8_ring) B.pre w (List.mem_cons_of_mem _ h)
  have hown : s.vm.findClass RX8 = some m.cls := findClass_of_methodNamed B.named
  have hlocks := B.notSynchronized
  subst hsz
  have hD : va_D A (wX8_ring cy aN qN aH qH qD vN vH vD vD_now vH_sorts vH_places) := by rw [← hAe]; exact hD0.self
  have hA : ∀ q : Nat, s.heap.size ≤ q → A q := fun q h => by rw [← hAe]; exact Or.inr h
  have hS : va_S A s.heap s.heap [] := va_S.rf
  have hl := lv_entry ([.ref aN, .int x1, .int x2]) (n := 4) (Nat.le_of_ble_eq_true rfl)
  rw [lg_entry_eq]
  generalize (lg_sl ([.ref aN, .int x1, .int x2]) ++ List.replicate (4 - (lg_sl ([.ref aN, .int x1, .int x2])).length) Slot.unset).toArray = ls at hl ⊢
  have hl : lv_has ls 4 [(0, .ref aN), (1, .int x1), (2, .int x2)] := hl
  generalize hQe : MQ below (kQi D cy zr A (wX8_ring cy aN qN aH qH qD z_vN vH vD vD_now vH_sorts vH_places)) ([.ref aN, .int x1, .int x2] : List Value).toArray s 0 0 A = Q
  have J20 : ∀ (H : Heap) (locs : List Loc) (ls : Array Slot), va_P D vwCl (wX8_ring cy aN qN aH qH qD vN vH vD vD_now vH_sorts vH_places) H → va_D A (wX8_ring cy aN qN aH qH qD vN vH vD vD_now vH_sorts vH_places) → va_S A s.heap H locs → lv_has ls 4 [(0, .ref aN)] → fX8_ring_J20 vN = some (zr, z_vN) → W p l e ({ frames := 2, cells := 0, slots := 0, locals := 44 } : Room) s m ([.ref aN, .int x1, .int x2] : List Value).toArray below meth c H locs 0 0 Q (F0 m 20 ls []) := by
    intro  H locs ls hP hD hS hl hok
    unfold fX8_ring_J20 at hok
    refine lv_aload_n hx hb dX8_ring_20 rfl (lv_at hl 0 rfl) ?_
    refine lv_iconst (v := 1) hx hb dX8_ring_21 (by decide) ?_
    obtain ⟨⟨r22, vN_22⟩, hc22, hok⟩ := k_bind hok
    try dsimp only at hok
    refine kCi (wc := (wX8_refuse cy aN qN aH vN)) (wc2 := (wX8_refuse cy aN qN aH vN_22)) (wr := [(aH, oX4 vH qH), (qN 1, oX1 vD qD), (qD 0, rI cy 9 vD_now), (qH 8, rI cy 4 vH_sorts), (qH 9, rI cy 4 vH_places)]) (ws2 := (wX8_ring cy aN qN aH qH qD vN_22 vH vD vD_now vH_sorts vH_places)) (kRunV (As := [.int 1]) (rest := []) ⟨hx, hb, hml, hown, ht0⟩ (kX8_refuse l D cy _ aN qN aH vN (1 : Int32) r22 vN_22 hc22 _ rfl) (cwV 1 ht0 (gV wd504 wd505 wd506 wd57 wd507) rfl rfl rfl (by decide +kernel) ⟨Nat.le_of_ble_eq_true rfl, Nat.le_of_ble_eq_true rfl⟩) hK hN hP hD [0] rfl (by decide) 0 7 rfl rfl rfl hl.1 rfl (Nat.le_of_ble_eq_true rfl) dX8_ring_22 ⟨Nat.zero_le _, Nat.zero_le _⟩) hP hD hS hA [0] [1, 2, 3, 4, 5] rfl rfl (by decide) (by decide) [5, 0, 1, 2, 3, 4] (by decide) rfl rfl (fun H locs hP hD hS => ?_)
    cases hok
    subst hQe; exact W.iret hx hb hr (fun t ht hW => ⟨⟨_, (), rfl, rfl, by rw [ht]; exact hP, va_K.moved hW.alike hK, hD⟩, hS.F ht⟩) hS.2.2 dX8_ring_25
  unfold fX8_ring at hok
  obtain ⟨H, hH⟩ : ∃ H, H = s.heap := ⟨_, rfl⟩
  obtain ⟨locs, hlc⟩ : ∃ x : List Loc, x = [] := ⟨_, rfl⟩
  have hP : va_P D vwCl (wX8_ring cy aN qN aH qH qD vN vH vD vD_now vH_sorts vH_places) H := by rw [hH]; exact hP
  have hS : va_S A s.heap H locs := by rw [hH, hlc]; exact hS
  rw [show W p l e _ s m _ below meth c s.heap [] = W p l e _ s m _ below meth c H locs from by rw [hH, hlc]]
  refine lv_aload_n hx hb dX8_ring_0 rfl (lv_at hl 0 rfl) ?_
  refine va_get (D := D) (ci := 7) (v := .ref aH) (C := RX8) (T := TX8) (N := 9) hx hb ht0 niX8 hown hK hP 0 rfl rfl 5 (by decide) (ht0 _ wd522) (fun _ h9 => h9) rfl dX8_ring_1 ?_
  refine lv_iload_n hx hb dX8_ring_4 rfl (lv_at hl 1 rfl) ?_
  obtain ⟨r5, hc5, hok⟩ := k_bind hok
  refine kCi (wc := (wX4_hasRing cy aH qH vH)) (wc2 := (wX4_hasRing cy aH qH vH)) (wr := [(aN, oX8 vN qN aH), (qN 1, oX1 vD qD), (qD 0, rI cy 9 vD_now), (qH 8, rI cy 4 vH_sorts), (qH 9, rI cy 4 vH_places)]) (ws2 := (wX8_ring cy aN qN aH qH qD vN vH vD vD_now vH_sorts vH_places)) (kRunV (As := [.int x1]) (rest := []) ⟨hx, hb, hml, hown, ht0⟩ (kX4_hasRing l D cy _ aH qH vH x1 r5 hc5 _ rfl) (cwV 1 ht0 (gV wd542 wd95 wd96 wd9 wd97) rfl rfl rfl (by decide +kernel) ⟨Nat.le_of_ble_eq_true rfl, Nat.le_of_ble_eq_true rfl⟩) hK hN hP hD [1] rfl (by decide) 1 3 rfl rfl rfl hl.1 rfl (Nat.le_of_ble_eq_true rfl) dX8_ring_5 ⟨Nat.zero_le _, Nat.zero_le _⟩) hP hD hS hA [1] [0, 2, 3, 4, 5] rfl rfl (by decide) (by decide) [0, 5, 1, 2, 3, 4] (by decide) rfl rfl (fun H locs hP hD hS => ?_)
  refine lv_if_eq (tgt := 20) hx hb dX8_ring_8 (by decide) (fun c8 => ?_) (fun c8 => ?_)
  · have hok := k_pos c8 hok
    exact J20  H locs ls hP hD hS (lv_sub hl [0] rfl) hok
  · have hok := k_neg c8 hok
    refine lv_iload_n hx hb dX8_ring_11 rfl (lv_at hl 2 rfl) ?_
    refine lv_if_lt (tgt := 20) hx hb dX8_ring_12 (by decide) (fun c12 => ?_) (fun c12 => ?_)
    · have hok := k_pos c12 hok
      exact J20  H locs ls hP hD hS (lv_sub hl [0] rfl) hok
    · have hok := k_neg c12 hok
      refine lv_iload_n hx hb dX8_ring_15 rfl (lv_at hl 2 rfl) ?_
      refine lv_iconst (v := 3) hx hb dX8_ring_16 (by decide) ?_
      refine lv_icmp_le (tgt := 26) hx hb dX8_ring_17 (by decide) (fun c17 => ?_) (fun c17 => ?_)
      · have hok := k_pos c17 hok
        refine lv_aload_n hx hb dX8_ring_26 rfl (lv_at hl 0 rfl) ?_
        refine va_get (D := D) (ci := 7) (v := .ref (qN 1)) (C := RX8) (T := TX8) (N := 9) hx hb ht0 niX8 hown hK hP 0 rfl rfl 1 (by decide) (ht0 _ wd527) (fun _ h9 => h9) rfl dX8_ring_27 ?_
        refine lv_iload_n hx hb dX8_ring_30 rfl (lv_at hl 1 rfl) ?_
        refine lv_aload_n hx hb dX8_ring_31 rfl (lv_at hl 0 rfl) ?_
        refine va_get (D := D) (ci := 7) (v := .ref aH) (C := RX8) (T := TX8) (N := 9) hx hb ht0 niX8 hown hK hP 0 rfl rfl 5 (by decide) (ht0 _ wd522) (fun _ h9 => h9) rfl dX8_ring_32 ?_
        refine va_get (D := D) (ci := 3) (v := .int (vH 5)) (C := RX4) (T := TX4) (N := 20) hx hb ht0 niX4 hown hK hP 1 rfl rfl 5 (by decide) (ht0 _ wd543) (fun _ h9 => h9) rfl dX8_ring_35 ?_
        obtain ⟨r38, hc38, hok⟩ := k_bind hok
        refine kCi (wc := (wX1_thingsIn cy (qN 1) qD vD vD_now)) (wc2 := (wX1_thingsIn cy (qN 1) qD vD vD_now)) (wr := [(aN, oX8 vN qN aH), (aH, oX4 vH qH), (qH 8, rI cy 4 vH_sorts), (qH 9, rI cy 4 vH_places)]) (ws2 := (wX8_ring cy aN qN aH qH qD vN vH vD vD_now vH_sorts vH_places)) (kRunV (As := [.int x1, .int (vH 5)]) (rest := []) ⟨hx, hb, hml, hown, ht0⟩ (kX1_thingsIn l D cy _ (qN 1) qD vD vD_now x1 (vH 5) r38 hc38 _ rfl) (cwV 2 ht0 (gV wd544 wd545 wd546 wd74 wd547) rfl rfl rfl (by decide +kernel) ⟨Nat.le_of_ble_eq_true rfl, Nat.le_of_ble_eq_true rfl⟩) hK hN hP hD [2, 3] rfl (by decide) 2 1 rfl rfl rfl hl.1 rfl (Nat.le_of_ble_eq_true rfl) dX8_ring_38 ⟨Nat.zero_le _, Nat.zero_le _⟩) hP hD hS hA [2, 3] [0, 1, 4, 5] rfl rfl (by decide) (by decide) [0, 1, 4, 5, 2, 3] (by decide) rfl rfl (fun H locs hP hD hS => ?_)
        refine lv_istore_n (lv' := [(3, .int r38), (0, .ref aN), (1, .int x1), (2, .int x2)]) hx hb dX8_ring_41 rfl hl (by decide) rfl (fun ls hl => ?_)
        refine lv_iload_n hx hb dX8_ring_42 rfl (lv_at hl 3 rfl) ?_
        by_cases c43_0 : x2 = 0
        · have hok := k_pos c43_0 hok
          refine lv_tableIn (tgt := 68) (off := 25) hx hb dX8_ring_43 (by rw [c43_0]; decide) (by rw [c43_0]; decide) (by rw [c43_0]; decide) (by decide) ?_
          refine lv_aload_n hx hb dX8_ring_68 rfl (lv_at hl 1 rfl) ?_
          refine lv_aload_n hx hb dX8_ring_69 rfl (lv_at hl 1 rfl) ?_
          refine va_get (D := D) (ci := 7) (v := .ref aH) (C := RX8) (T := TX8) (N := 9) hx hb ht0 niX8 hown hK hP 0 rfl rfl 5 (by decide) (ht0 _ wd522) (fun _ h9 => h9) rfl dX8_ring_70 ?_
          refine lv_iload_n hx hb dX8_ring_73 rfl (lv_at hl 2 rfl) ?_
          obtain ⟨r74, hc74, hok⟩ := k_bind hok
          refine kCi (wc := (wX4_sortOf cy aH qH vH vH_sorts)) (wc2 := (wX4_sortOf cy aH qH vH vH_sorts)) (wr := [(aN, oX8 vN qN aH), (qN 1, oX1 vD qD), (qD 0, rI cy 9 vD_now), (qH 9, rI cy 4 vH_places)]) (ws2 := (wX8_ring cy aN qN aH qH qD vN vH vD vD_now vH_sorts vH_places)) (kRunV (As := [.int x1]) (rest := [.ref aN]) ⟨hx, hb, hml, hown, ht0⟩ (kX4_sortOf l D cy _ aH qH vH vH_sorts x1 r74 hc74 _ rfl) (cwV 1 ht0 (gV wd548 wd103 wd104 wd9 wd105) rfl rfl rfl (by decide +kernel) ⟨Nat.le_of_ble_eq_true rfl, Nat.le_of_ble_eq_true rfl⟩) hK hN hP hD [1, 4] rfl (by decide) 1 3 rfl rfl rfl hl.1 rfl (Nat.le_of_ble_eq_true rfl) dX8_ring_74 ⟨Nat.zero_le _, Nat.zero_le _⟩) hP hD hS hA [1, 4] [0, 2, 3, 5] rfl rfl (by decide) (by decide) [0, 4, 1, 2, 5, 3] (by decide) rfl rfl (fun H locs hP hD hS => ?_)
          obtain ⟨⟨r77, vN_77⟩, hc77, hok⟩ := k_bind hok
          try dsimp only at hok
          refine kCi (wc := (wX8_answer cy aN qN aH vN)) (wc2 := (wX8_answer cy aN qN aH vN_77)) (wr := [(aH, oX4 vH qH), (qN 1, oX1 vD qD), (qD 0, rI cy 9 vD_now), (qH 8, rI cy 4 vH_sorts), (qH 9, rI cy 4 vH_places)]) (ws2 := (wX8_ring cy aN qN aH qH qD vN_77 vH vD vD_now vH_sorts vH_places)) (kRunV (As := [.int r74]) (rest := []) ⟨hx, hb, hml, hown, ht0⟩ (kX8_answer l D cy _ aN qN aH vN r74 r77 vN_77 hc77 _ rfl) (cwV 1 ht0 (gV wd538 wd539 wd540 wd57 wd541) rfl rfl rfl (by decide +kernel) ⟨Nat.le_of_ble_eq_true rfl, Nat.le_of_ble_eq_true rfl⟩) hK hN hP hD [0] rfl (by decide) 0 7 rfl rfl rfl hl.1 rfl (Nat.le_of_ble_eq_true rfl) dX8_ring_77 ⟨Nat.zero_le _, Nat.zero_le _⟩) hP hD hS hA [0] [1, 2, 3, 4, 5] rfl rfl (by decide) (by decide) [5, 0, 1, 2, 3, 4] (by decide) rfl rfl (fun H locs hP hD hS => ?_)
          cases hok
          subst hQe; exact W.iret hx hb hr (fun t ht hW => ⟨⟨_, (), rfl, rfl, by rw [ht]; exact hP, va_K.moved hW.alike hK, hD⟩, hS.F ht⟩) hS.2.2 dX8_ring_80
        have hok := k_neg c43_0 hok
        by_cases c43_1 : x2 = 1
        · have hok := k_pos c43_1 hok
          refine lv_tableIn (tgt := 81) (off := 38) hx hb dX8_ring_43 (by rw [c43_1]; decide) (by rw [c43_1]; decide) (by rw [c43_1]; decide) (by decide) ?_
          refine lv_aload_n hx hb dX8_ring_81 rfl (lv_at hl 1 rfl) ?_
          refine lv_aload_n hx hb dX8_ring_82 rfl (lv_at hl 1 rfl) ?_
          refine va_get (D := D) (ci := 7) (v := .ref aH) (C := RX8) (T := TX8) (N := 9) hx hb ht0 niX8 hown hK hP 0 rfl rfl 5 (by decide) (ht0 _ wd522) (fun _ h9 => h9) rfl dX8_ring_83 ?_
          refine lv_iload_n hx hb dX8_ring_86 rfl (lv_at hl 2 rfl) ?_
          obtain ⟨r87, hc87, hok⟩ := k_bind hok
          refine kCi (wc := (wX4_placesOf cy aH qH vH vH_places)) (wc2 := (wX4_placesOf cy aH qH vH vH_places)) (wr := [(aN, oX8 vN qN aH), (qN 1, oX1 vD qD), (qD 0, rI cy 9 vD_now), (qH 8, rI cy 4 vH_sorts)]) (ws2 := (wX8_ring cy aN qN aH qH qD vN vH vD vD_now vH_sorts vH_places)) (kRunV (As := [.int x1]) (rest := [.ref aN]) ⟨hx, hb, hml, hown, ht0⟩ (kX4_placesOf l D cy _ aH qH vH vH_places x1 r87 hc87 _ rfl) (cwV 1 ht0 (gV wd549 wd257 wd258 wd9 wd259) rfl rfl rfl (by decide +kernel) ⟨Nat.le_of_ble_eq_true rfl, Nat.le_of_ble_eq_true rfl⟩) hK hN hP hD [1, 5] rfl (by decide) 1 3 rfl rfl rfl hl.1 rfl (Nat.le_of_ble_eq_true rfl) dX8_ring_87 ⟨Nat.zero_le _, Nat.zero_le _⟩) hP hD hS hA [1, 5] [0, 2, 3, 4] rfl rfl (by decide) (by decide) [0, 4, 1, 2, 3, 5] (by decide) rfl rfl (fun H locs hP hD hS => ?_)
          obtain ⟨⟨r90, vN_90⟩, hc90, hok⟩ := k_bind hok
          try dsimp only at hok
          refine kCi (wc := (wX8_answer cy aN qN aH vN)) (wc2 := (wX8_answer cy aN qN aH vN_90)) (wr := [(aH, oX4 vH qH), (qN 1, oX1 vD qD), (qD 0, rI cy 9 vD_now), (qH 8, rI cy 4 vH_sorts), (qH 9, rI cy 4 vH_places)]) (ws2 := (wX8_ring cy aN qN aH qH qD vN_90 vH vD vD_now vH_sorts vH_places)) (kRunV (As := [.int r87]) (rest := []) ⟨hx, hb, hml, hown, ht0⟩ (kX8_answer l D cy _ aN qN aH vN r87 r90 vN_90 hc90 _ rfl) (cwV 1 ht0 (gV wd538 wd539 wd540 wd57 wd541) rfl rfl rfl (by decide +kernel) ⟨Nat.le_of_ble_eq_true rfl, Nat.le_of_ble_eq_true rfl⟩) hK hN hP hD [0] rfl (by decide) 0 7 rfl rfl rfl hl.1 rfl (Nat.le_of_ble_eq_true rfl) dX8_ring_90 ⟨Nat.zero_le _, Nat.zero_le _⟩) hP hD hS hA [0] [1, 2, 3, 4, 5] rfl rfl (by decide) (by decide) [5, 0, 1, 2, 3, 4] (by decide) rfl rfl (fun H locs hP hD hS => ?_)
          cases hok
          subst hQe; exact W.iret hx hb hr (fun t ht hW => ⟨⟨_, (), rfl, rfl, by rw [ht]; exact hP, va_K.moved hW.alike hK, hD⟩, hS.F ht⟩) hS.2.2 dX8_ring_93
        have hok := k_neg c43_1 hok
        by_cases c43_2 : x2 = 2
        · have hok := k_pos c43_2 hok
          refine lv_tableIn (tgt := 94) (off := 51) hx hb dX8_ring_43 (by rw [c43_2]; decide) (by rw [c43_2]; decide) (by rw [c43_2]; decide) (by decide) ?_
          refine lv_aload_n hx hb dX8_ring_94 rfl (lv_at hl 1 rfl) ?_
          refine lv_iload_n hx hb dX8_ring_95 rfl (lv_at hl 0 rfl) ?_
          obtain ⟨⟨r96, vN_96⟩, hc96, hok⟩ := k_bind hok
          try dsimp only at hok
          refine kCi (wc := (wX8_answer cy aN qN aH vN)) (wc2 := (wX8_answer cy aN qN aH vN_96)) (wr := [(aH, oX4 vH qH), (qN 1, oX1 vD qD), (qD 0, rI cy 9 vD_now), (qH 8, rI cy 4 vH_sorts), (qH 9, rI cy 4 vH_places)]) (ws2 := (wX8_ring cy aN qN aH qH qD vN_96 vH vD vD_now vH_sorts vH_places)) (kRunV (As := [.int r38]) (rest := []) ⟨hx, hb, hml, hown, ht0⟩ (kX8_answer l D cy _ aN qN aH vN r38 r96 vN_96 hc96 _ rfl) (cwV 1 ht0 (gV wd538 wd539 wd540 wd57 wd541) rfl rfl rfl (by decide +kernel) ⟨Nat.le_of_ble_eq_true rfl, Nat.le_of_ble_eq_true rfl⟩) hK hN hP hD [0] rfl (by decide) 0 7 rfl rfl rfl hl.1 rfl (Nat.le_of_ble_eq_true rfl) dX8_ring_96 ⟨Nat.zero_le _, Nat.zero_le _⟩) hP hD hS hA [0] [1, 2, 3, 4, 5] rfl rfl (by decide) (by decide) [5, 0, 1, 2, 3, 4] (by decide) rfl rfl (fun H locs hP hD hS => ?_)
          cases hok
          subst hQe; exact W.iret hx hb hr (fun t ht hW => ⟨⟨_, (), rfl, rfl, by rw [ht]; exact hP, va_K.moved hW.alike hK, hD⟩, hS.F ht⟩) hS.2.2 dX8_ring_99
        have hok := k_neg c43_2 hok
        refine lv_tableOut (tgt := 100) hx hb dX8_ring_43 (by have q0 := lv_neT c43_0 (a := 0) (by decide); have q1 := lv_neT c43_1 (a := 1) (by decide); have q2 := lv_neT c43_2 (a := 2) (by decide); omega) (by decide) ?_
        refine lv_aload_n hx hb dX8_ring_100 rfl (lv_at hl 1 rfl) ?_
        refine lv_aload_n hx hb dX8_ring_101 rfl (lv_at hl 1 rfl) ?_
        refine va_get (D := D) (ci := 7) (v := .ref aH) (C := RX8) (T := TX8) (N := 9) hx hb ht0 niX8 hown hK hP 0 rfl rfl 5 (by decide) (ht0 _ wd522) (fun _ h9 => h9) rfl dX8_ring_102 ?_
        refine lv_iload_n hx hb dX8_ring_105 rfl (lv_at hl 2 rfl) ?_
        obtain ⟨r106, hc106, hok⟩ := k_bind hok
        refine kCi (wc := (wX4_placesOf cy aH qH vH vH_places)) (wc2 := (wX4_placesOf cy aH qH vH vH_places)) (wr := [(aN, oX8 vN qN aH), (qN 1, oX1 vD qD), (qD 0, rI cy 9 vD_now), (qH 8, rI cy 4 vH_sorts)]) (ws2 := (wX8_ring cy aN qN aH qH qD vN vH vD vD_now vH_sorts vH_places)) (kRunV (As := [.int x1]) (rest := [.ref aN]) ⟨hx, hb, hml, hown, ht0⟩ (kX4_placesOf l D cy _ aH qH vH vH_places x1 r106 hc106 _ rfl) (cwV 1 ht0 (gV wd549 wd257 wd258 wd9 wd259) rfl rfl rfl (by decide +kernel) ⟨Nat.le_of_ble_eq_true rfl, Nat.le_of_ble_eq_true rfl⟩) hK hN hP hD [1, 5] rfl (by decide) 1 3 rfl rfl rfl hl.1 rfl (Nat.le_of_ble_eq_true rfl) dX8_ring_106 ⟨Nat.zero_le _, Nat.zero_le _⟩) hP hD hS hA [1, 5] [0, 2, 3, 4] rfl rfl (by decide) (by decide) [0, 4, 1, 2, 3, 5] (by decide) rfl rfl (fun H locs hP hD hS => ?_)
        refine lv_iload_n hx hb dX8_ring_109 rfl (lv_at hl 0 rfl) ?_
        obtain ⟨r110, hc110, hok⟩ := k_bind hok
        refine kCi (wc := (wJ6_bitCount_0f7a4 cy )) (wc2 := (wJ6_bitCount_0f7a4 cy )) (wr := [(aN, oX8 vN qN aH), (aH, oX4 vH qH), (qN 1, oX1 vD qD), (qD 0, rI cy 9 vD_now), (qH 8, rI cy 4 vH_sorts), (qH 9, rI cy 4 vH_places)]) (ws2 := (wX8_ring cy aN qN aH qH qD vN vH vD vD_now vH_sorts vH_places)) (kRunS (As := [.int r38]) (rest := [.int r106, .ref aN]) ⟨hx, hb, hml, hown, ht0⟩ (kJ6_bitCount_0f7a4 l D cy _ r38 r110 hc110 _ rfl) (va_cwS 1 ht0 (gS wd550 wd89 wd90 wd91) rfl rfl rfl (by decide +kernel) ⟨Nat.le_of_ble_eq_true rfl, Nat.le_of_ble_eq_true rfl⟩) hK hN hP hD [] rfl (by decide) rfl hl.1 rfl (Nat.le_of_ble_eq_true rfl) dX8_ring_110 ⟨Nat.zero_le _, Nat.zero_le _⟩) hP hD hS hA [] [0, 1, 2, 3, 4, 5] rfl rfl (by decide) (by decide) [0, 1, 2, 3, 4, 5] (by decide) rfl rfl (fun H locs hP hD hS => ?_)
        refine lv_isub hx hb dX8_ring_113 ?_
        obtain ⟨⟨r114, vN_114⟩, hc114, hok⟩ := k_bind hok
        try dsimp only at hok
        refine kCi (wc := (wX8_answer cy aN qN aH vN)) (wc2 := (wX8_answer cy aN qN aH vN_114)) (wr := [(aH, oX4 vH qH), (qN 1, oX1 vD qD), (qD 0, rI cy 9 vD_now), (qH 8, rI cy 4 vH_sorts), (qH 9, rI cy 4 vH_places)]) (ws2 := (wX8_ring cy aN qN aH qH qD vN_114 vH vD vD_now vH_sorts vH_places)) (kRunV (As := [.int (r106 - r110)]) (rest := []) ⟨hx, hb, hml, hown, ht0⟩ (kX8_answer l D cy _ aN qN aH vN (r106 - r110) r114 vN_114 hc114 _ rfl) (cwV 1 ht0 (gV wd538 wd539 wd540 wd57 wd541) rfl rfl rfl (by decide +kernel) ⟨Nat.le_of_ble_eq_true rfl, Nat.le_of_ble_eq_true rfl⟩) hK hN hP hD [0] rfl (by decide) 0 7 rfl rfl rfl hl.1 rfl (Nat.le_of_ble_eq_true rfl) dX8_ring_114 ⟨Nat.zero_le _, Nat.zero_le _⟩) hP hD hS hA [0] [1, 2, 3, 4, 5] rfl rfl (by decide) (by decide) [5, 0, 1, 2, 3, 4] (by decide) rfl rfl (fun H locs hP hD hS => ?_)
        cases hok
        subst hQe; exact W.iret hx hb hr (fun t ht hW => ⟨⟨_, (), rfl, rfl, by rw [ht]; exact hP, va_K.moved hW.alike hK, hD⟩, hS.F ht⟩) hS.2.2 dX8_ring_117
      · have hok := k_neg c17 hok
        exact J20  H locs ls hP hD hS (lv_sub hl [0] rfl) hok
def wsX8_placeOfCell : List Cond := .code yX8_placeOfCell cX8_placeOfCell 1 (some .int) :: W0
abbrev wX8_placeOfCell (cy : Nat → ClassId)  : va_W := []
set_option maxHeartbeats 4000000 in
set_option maxRecDepth 100000 in
theorem kX8_placeOfCell (l : Launch) (D : va_G) (cy : Nat → ClassId) (sz : Nat) (x0 : Int32) (zr : Int32) (hok : fX8_placeOfCell x0 = some zr) (A : Nat → Prop) (hAe : va_A (wX8_placeOfCell cy ) sz = A) : Met l yX8_placeOfCell wsX8_placeOfCell ({ frames := 0, cells := 0, slots := 0, locals := 0 } : Room) (kPre D cy [.int x0] (wX8_placeOfCell cy ) sz) (kQi D cy zr A (wX8_placeOfCell cy )) 0 0 A := by
  refine Met.ofW (cc := cX8_placeOfCell) (maxL := 1) (ret := (some .int)) (by decide) rfl ?_
  intro p e s m args below meth c s₁ B hml hv
  obtain ⟨rfl, hsz, hP, hK, hD0, hN⟩ := hv
  have hx := B.exec
  have hb := B.bytes
  have hr := B.returns
  have ht0 : ∀ w ∈ W0, w.before _ s = true := fun w h => atoms_spec (ws := wsX8_placeOfCell) B.pre w (List.mem_cons_of_mem _ h)
  have hown : s.vm.findClass RX8 = some m.cls := findClass_of_methodNamed B.named
  have hlocks := B.notSynchronized
  subst hsz
  have hD : va_D A (wX8_placeOfCell cy ) := by rw [← hAe]; exact hD0.self
  have hA : ∀ q : Nat, s.heap.size ≤ q → A q := fun q h => by rw [← hAe]; exact Or.inr h
  have hS : va_S A s.heap s.heap [] := va_S.rf
  have hl := lv_entry ([.int x0]) (n := 1) (Nat.le_of_ble_eq_true rfl)
  rw [lg_entry_eq]
  generalize (lg_sl ([.int x0]) ++ List.replicate (1 - (lg_sl ([.int x0])).length) Slot.unset).toArray = ls at hl ⊢
  have hl : lv_has ls 1 [(0, .int x0)] := hl
  unfold fX8_placeOfCell at hok
  obtain ⟨H, hH⟩ : ∃ H, H = s.heap := ⟨_, rfl⟩
  obtain ⟨locs, hlc⟩ : ∃ x : List Loc, x = [] := ⟨_, rfl⟩
  have hP : va_P D vwCl (wX8_placeOfCell cy ) H := by rw [hH]; exact hP
  have hS : va_S A s.heap H locs := by rw [hH, hlc]; exact hS
  rw [show W p l e _ s m _ below meth c s.heap [] = W p l e _ s m _ below meth c H locs from by rw [hH, hlc]]
  refine lv_iload_n hx hb dX8_placeOfCell_0 rfl (lv_at hl 0 rfl) ?_
  refine lv_bipush (v := 9) hx hb dX8_placeOfCell_1 (by decide) ?_
  refine lv_irem hx hb dX8_placeOfCell_3 (by decide) ?_
  cases hok
  exact W.iret hx hb hr (fun t ht hW => ⟨⟨_, (), rfl, rfl, by rw [ht]; exact hP, va_K.moved hW.alike hK, hD⟩, hS.F ht⟩) hS.2.2 dX8_placeOfCell_4
def wsX8_thing : List Cond := .code yX8_thing cX8_thing 3 (some .int) :: W0
abbrev wX8_thing (cy : Nat → ClassId) (aN : Nat) (qN : Nat → Nat) (aH : Nat) (qH : Nat → Nat) (qD : Nat → Nat) (vN : Nat → Int32) (vH : Nat → Int32) (vH_kinds : Nat → Int32) (vD : Nat → Int32) (vD_now : Nat → Int32) (vH_sizes : Nat → Int32) : va_W := [(aN, oX8 vN qN aH), (aH, oX4 vH qH), (qH 14, rI cy 7 vH_kinds), (qN 1, oX1 vD qD), (qD 0, rI cy 9 vD_now), (qH 15, rI cy 7 vH_sizes)]
set_option maxHeartbeats 4000000 in
set_option maxRecDepth 100000 in
theorem kX8_thing (l : Launch) (D : va_G) (cy : Nat → ClassId) (sz : Nat) (aN : Nat) (qN : Nat → Nat) (aH : Nat) (qH : Nat → Nat) (qD : Nat → Nat) (vN : Nat → Int32) (vH : Nat → Int32) (vH_kinds : Nat → Int32) (vD : Nat → Int32) (vD_now : Nat → Int32) (vH_sizes : Nat → Int32) (x1 : Int32) (x2 : Int32) (zr : Int32) (z_vN : Nat → Int32) (hok : fX8_thing vN vH vH_kinds vD vD_now vH_sizes x1 x2 = some (zr, z_vN)) (A : Nat → Prop) (hAe : va_A (wX8_thing cy aN qN aH qH qD vN vH vH_kinds vD vD_now vH_sizes) sz = A) : Met l yX8_thing wsX8_thing ({ frames := 1, cells := 0, slots := 0, locals := 21 } : Room) (kPre D cy [.ref aN, .int x1, .int x2] (wX8_thing cy aN qN aH qH qD vN vH vH_kinds vD vD_now vH_sizes) sz) (kQi D cy zr A (wX8_thing cy aN qN aH qH qD z_vN vH vH_kinds vD vD_now vH_sizes)) 0 0 A := by
  refine Met.ofW (cc := cX8_thing) (maxL := 3) (ret := (some .int)) (by decide) rfl ?_
  intro p e s m args below meth c s₁ B hml hv
  obtain ⟨rfl, hsz, hP, hK, hD0, hN⟩ := hv
  have hx := B.exec
  have hb := B.bytes
  have hr := B.returns
  have ht0 : ∀ w ∈ W0, w.before _ s = true := fun w h => atoms_spec (ws := wsX8_thing) B.pre w (List.mem_cons_of_mem _ h)
  have hown : s.vm.findClass RX8 = some m.cls := findClass_of_methodNamed B.named
  have hlocks := B.notSynchronized
  subst hsz
  have hD : va_D A (wX8_thing cy aN qN aH qH qD vN vH vH_kinds vD vD_now vH_sizes) := by rw [← hAe]; exact hD0.self
  have hA : ∀ q : Nat, s.heap.size ≤ q → A q := fun q h => by rw [← hAe]; exact Or.inr h
  have hS : va_S A s.heap s.heap [] := va_S.rf
  have hl := lv_entry ([.ref aN, .int x1, .int x2]) (n := 3) (Nat.le_of_ble_eq_true rfl)
  rw [lg_entry_eq]
  generalize (lg_sl ([.ref aN, .int x1, .int x2]) ++ List.replicate (3 - (lg_sl ([.ref aN, .int x1, .int x2])).length) Slot.unset).toArray = ls at hl ⊢
  have hl : lv_has ls 3 [(0, .ref aN), (1, .int x1), (2, .int x2)] := hl
  generalize hQe : MQ below (kQi D cy zr A (wX8_thing cy aN qN aH qH qD z_vN vH vH_kinds vD vD_now vH_sizes)) ([.ref aN, .int x1, .int x2] : List Value).toArray s 0 0 A = Q
  have J131 : ∀ (t0_131 : Int32), ∀ (H : Heap) (locs : List Loc) (ls : Array Slot), va_P D vwCl (wX8_thing cy aN qN aH qH qD vN vH vH_kinds vD vD_now vH_sizes) H → va_D A (wX8_thing cy aN qN aH qH qD vN vH vH_kinds vD vD_now vH_sizes) → va_S A s.heap H locs → lv_has ls 3 [] → fX8_thing_J131 vN t0_131 = some (zr, z_vN) → W p l e ({ frames := 1, cells := 0, slots := 0, locals := 21 } : Room) s m ([.ref aN, .int x1, .int x2] : List Value).toArray below meth c H locs 0 0 Q (F0 m 131 ls [.int t0_131, .ref aN]) := by
    intro t0_131 H locs ls hP hD hS hl hok
    unfold fX8_thing_J131 at hok
    obtain ⟨⟨r131, vN_131⟩, hc131, hok⟩ := k_bind hok
    try dsimp only at hok
    refine kCi (wc := (wX8_answer cy aN qN aH vN)) (wc2 := (wX8_answer cy aN qN aH vN_131)) (wr := [(aH, oX4 vH qH), (qH 14, rI cy 7 vH_kinds), (qN 1, oX1 vD qD), (qD 0, rI cy 9 vD_now), (qH 15, rI cy 7 vH_sizes)]) (ws2 := (wX8_thing cy aN qN aH qH qD vN_131 vH vH_kinds vD vD_now vH_sizes)) (kRunV (As := [.int t0_131]) (rest := []) ⟨hx, hb, hml, hown, ht0⟩ (kX8_answer l D cy _ aN qN aH vN t0_131 r131 vN_131 hc131 _ rfl) (cwV 1 ht0 (gV wd538 wd539 wd540 wd57 wd541) rfl rfl rfl (by decide +kernel) ⟨Nat.le_of_ble_eq_true rfl, Nat.le_of_ble_eq_true rfl⟩) hK hN hP hD [0] rfl (by decide) 0 7 rfl rfl rfl hl.1 rfl (Nat.le_of_ble_eq_true rfl) dX8_thing_131 ⟨Nat.zero_le _, Nat.zero_le _⟩) hP hD hS hA [0] [1, 2, 3, 4, 5] rfl rfl (by decide) (by decide) [5, 0, 1, 2, 3, 4] (by decide) rfl rfl (fun H locs hP hD hS => ?_)
    cases hok
    subst hQe; exact W.iret hx hb hr (fun t ht hW => ⟨⟨_, (), rfl, rfl, by rw [ht]; exact hP, va_K.moved hW.alike hK, hD⟩, hS.F ht⟩) hS.2.2 dX8_thing_134
  have J20 : ∀ (H : Heap) (locs : List Loc) (ls : Array Slot), va_P D vwCl (wX8_thing cy aN qN aH qH qD vN vH vH_kinds vD vD_now vH_sizes) H → va_D A (wX8_thing cy aN qN aH qH qD vN vH vH_kinds vD vD_now vH_sizes) → va_S A s.heap H locs → lv_has ls 3 [(0, .ref aN)] → fX8_thing_J20 vN = some (zr, z_vN) → W p l e ({ frames := 1, cells := 0, slots := 0, locals := 21 } : Room) s m ([.ref aN, .int x1, .int x2] : List Value).toArray below meth c H locs 0 0 Q (F0 m 20 ls []) := by
    intro  H locs ls hP hD hS hl hok
    unfold fX8_thing_J20 at hok
    refine lv_aload_n hx hb dX8_thing_20 rfl (lv_at hl 0 rfl) ?_
    refine lv_iconst (v := 1) hx hb dX8_thing_21 (by decide) ?_
    obtain ⟨⟨r22, vN_22⟩, hc22, hok⟩ := k_bind hok
    try dsimp only at hok
    refine kCi (wc := (wX8_refuse cy aN qN aH vN)) (wc2 := (wX8_refuse cy aN qN aH vN_22)) (wr := [(aH, oX4 vH qH), (qH 14, rI cy 7 vH_kinds), (qN 1, oX1 vD qD), (qD 0, rI cy 9 vD_now), (qH 15, rI cy 7 vH_sizes)]) (ws2 := (wX8_thing cy aN qN aH qH qD vN_22 vH vH_kinds vD vD_now vH_sizes)) (kRunV (As := [.int 1]) (rest := []) ⟨hx, hb, hml, hown, ht0⟩ (kX8_refuse l D cy _ aN qN aH vN (1 : Int32) r22 vN_22 hc22 _ rfl) (cwV 1 ht0 (gV wd504 wd505 wd506 wd57 wd507) rfl rfl rfl (by decide +kernel) ⟨Nat.le_of_ble_eq_true rfl, Nat.le_of_ble_eq_true rfl⟩) hK hN hP hD [0] rfl (by decide) 0 7 rfl rfl rfl hl.1 rfl (Nat.le_of_ble_eq_true rfl) dX8_thing_22 ⟨Nat.zero_le _, Nat.zero_le _⟩) hP hD hS hA [0] [1, 2, 3, 4, 5] rfl rfl (by decide) (by decide) [5, 0, 1, 2, 3, 4] (by decide) rfl rfl (fun H locs hP hD hS => ?_)
    cases hok
    subst hQe; exact W.iret hx hb hr (fun t ht hW => ⟨⟨_, (), rfl, rfl, by rw [ht]; exact hP, va_K.moved hW.alike hK, hD⟩, hS.F ht⟩) hS.2.2 dX8_thing_25
  unfold fX8_thing at hok
  obtain ⟨H, hH⟩ : ∃ H, H = s.heap := ⟨_, rfl⟩
  obtain ⟨locs, hlc⟩ : ∃ x : List Loc, x = [] := ⟨_, rfl⟩
  have hP : va_P D vwCl (wX8_thing cy aN qN aH qH qD vN vH vH_kinds vD vD_now vH_sizes) H := by rw [hH]; exact hP
  have hS : va_S A s.heap H locs := by rw [hH, hlc]; exact hS
  rw [show W p l e _ s m _ below meth c s.heap [] = W p l e _ s m _ below meth c H locs from by rw [hH, hlc]]
  refine lv_aload_n hx hb dX8_thing_0 rfl (lv_at hl 0 rfl) ?_
  refine va_get (D := D) (ci := 7) (v := .ref aH) (C := RX8) (T := TX8) (N := 9) hx hb ht0 niX8 hown hK hP 0 rfl rfl 5 (by decide) (ht0 _ wd522) (fun _ h9 => h9) rfl dX8_thing_1 ?_
  refine lv_iload_n hx hb dX8_thing_4 rfl (lv_at hl 1 rfl) ?_
  obtain ⟨r5, hc5, hok⟩ := k_bind hok
  refine kCi (wc := (wX4_hasThing cy aH qH vH)) (wc2 := (wX4_hasThing cy aH qH vH)) (wr := [(aN, oX8 vN qN aH), (qH 14, rI cy 7 vH_kinds), (qN 1, oX1 vD qD), (qD 0, rI cy 9 vD_now), (qH 15, rI cy 7 vH_sizes)]) (ws2 := (wX8_thing cy aN qN aH qH qD vN vH vH_kinds vD vD_now vH_sizes)) (kRunV (As := [.int x1]) (rest := []) ⟨hx, hb, hml, hown, ht0⟩ (kX4_hasThing l D cy _ aH qH vH x1 r5 hc5 _ rfl) (cwV 1 ht0 (gV wd551 wd552 wd553 wd9 wd554) rfl rfl rfl (by decide +kernel) ⟨Nat.le_of_ble_eq_true rfl, Nat.le_of_ble_eq_true rfl⟩) hK hN hP hD [1] rfl (by decide) 1 3 rfl rfl rfl hl.1 rfl (Nat.le_of_ble_eq_true rfl) dX8_thing_5 ⟨Nat.zero_le _, Nat.zero_le _⟩) hP hD hS hA [1] [0, 2, 3, 4, 5] rfl rfl (by decide) (by decide) [0, 5, 1, 2, 3, 4] (by decide) rfl rfl (fun H locs hP hD hS => ?_)
  refine lv_if_eq (tgt := 20) hx hb dX8_thing_8 (by decide) (fun c8 => ?_) (fun c8 => ?_)
  · have hok := k_pos c8 hok
    exact J20  H locs ls hP hD hS (lv_sub hl [0] rfl) hok
  · have hok := k_neg c8 hok
    refine lv_iload_n hx hb dX8_thing_11 rfl (lv_at hl 2 rfl) ?_
    refine lv_if_lt (tgt := 20) hx hb dX8_thing_12 (by decide) (fun c12 => ?_) (fun c12 => ?_)
    · have hok := k_pos c12 hok
      exact J20  H locs ls hP hD hS (lv_sub hl [0] rfl) hok
    · have hok := k_neg c12 hok
      refine lv_iload_n hx hb dX8_thing_15 rfl (lv_at hl 2 rfl) ?_
      refine lv_iconst (v := 4) hx hb dX8_thing_16 (by decide) ?_
      refine lv_icmp_le (tgt := 26) hx hb dX8_thing_17 (by decide) (fun c17 => ?_) (fun c17 => ?_)
      · have hok := k_pos c17 hok
        refine lv_iload_n hx hb dX8_thing_26 rfl (lv_at hl 2 rfl) ?_
        by_cases c27_0 : x2 = 0
        · have hok := k_pos c27_0 hok
          refine lv_tableIn (tgt := 56) (off := 29) hx hb dX8_thing_27 (by rw [c27_0]; decide) (by rw [c27_0]; decide) (by rw [c27_0]; decide) (by decide) ?_
          refine lv_aload_n hx hb dX8_thing_56 rfl (lv_at hl 0 rfl) ?_
          refine lv_aload_n hx hb dX8_thing_57 rfl (lv_at hl 0 rfl) ?_
          refine va_get (D := D) (ci := 7) (v := .ref aH) (C := RX8) (T := TX8) (N := 9) hx hb ht0 niX8 hown hK hP 0 rfl rfl 5 (by decide) (ht0 _ wd522) (fun _ h9 => h9) rfl dX8_thing_58 ?_
          refine lv_iload_n hx hb dX8_thing_61 rfl (lv_at hl 1 rfl) ?_
          obtain ⟨r62, hc62, hok⟩ := k_bind hok
          refine kCi (wc := (wX4_kindOf cy aH qH vH vH_kinds)) (wc2 := (wX4_kindOf cy aH qH vH vH_kinds)) (wr := [(aN, oX8 vN qN aH), (qN 1, oX1 vD qD), (qD 0, rI cy 9 vD_now), (qH 15, rI cy 7 vH_sizes)]) (ws2 := (wX8_thing cy aN qN aH qH qD vN vH vH_kinds vD vD_now vH_sizes)) (kRunV (As := [.int x1]) (rest := [.ref aN]) ⟨hx, hb, hml, hown, ht0⟩ (kX4_kindOf l D cy _ aH qH vH vH_kinds x1 r62 hc62 _ rfl) (cwV 1 ht0 (gV wd555 wd77 wd78 wd9 wd79) rfl rfl rfl (by decide +kernel) ⟨Nat.le_of_ble_eq_true rfl, Nat.le_of_ble_eq_true rfl⟩) hK hN hP hD [1, 2] rfl (by decide) 1 3 rfl rfl rfl hl.1 rfl (Nat.le_of_ble_eq_true rfl) dX8_thing_62 ⟨Nat.zero_le _, Nat.zero_le _⟩) hP hD hS hA [1, 2] [0, 3, 4, 5] rfl rfl (by decide) (by decide) [0, 4, 5, 1, 2, 3] (by decide) rfl rfl (fun H locs hP hD hS => ?_)
          obtain ⟨⟨r65, vN_65⟩, hc65, hok⟩ := k_bind hok
          try dsimp only at hok
          refine kCi (wc := (wX8_answer cy aN qN aH vN)) (wc2 := (wX8_answer cy aN qN aH vN_65)) (wr := [(aH, oX4 vH qH), (qH 14, rI cy 7 vH_kinds), (qN 1, oX1 vD qD), (qD 0, rI cy 9 vD_now), (qH 15, rI cy 7 vH_sizes)]) (ws2 := (wX8_thing cy aN qN aH qH qD vN_65 vH vH_kinds vD vD_now vH_sizes)) (kRunV (As := [.int r62]) (rest := []) ⟨hx, hb, hml, hown, ht0⟩ (kX8_answer l D cy _ aN qN aH vN r62 r65 vN_65 hc65 _ rfl) (cwV 1 ht0 (gV wd538 wd539 wd540 wd57 wd541) rfl rfl rfl (by decide +kernel) ⟨Nat.le_of_ble_eq_true rfl, Nat.le_of_ble_eq_true rfl⟩) hK hN hP hD [0] rfl (by decide) 0 7 rfl rfl rfl hl.1 rfl (Nat.le_of_ble_eq_true rfl) dX8_thing_65 ⟨Nat.zero_le _, Nat.zero_le _⟩) hP hD hS hA [0] [1, 2, 3, 4, 5] rfl rfl (by decide) (by decide) [5, 0, 1, 2, 3, 4] (by decide) rfl rfl (fun H locs hP hD hS => ?_)
          cases hok
          subst hQe; exact W.iret hx hb hr (fun t ht hW => ⟨⟨_, (), rfl, rfl, by rw [ht]; exact hP, va_K.moved hW.alike hK, hD⟩, hS.F ht⟩) hS.2.2 dX8_thing_68
        have hok := k_neg c27_0 hok
        by_cases c27_1 : x2 = 1
        · have hok := k_pos c27_1 hok
          refine lv_tableIn (tgt := 69) (off := 42) hx hb dX8_thing_27 (by rw [c27_1]; decide) (by rw [c27_1]; decide) (by rw [c27_1]; decide) (by decide) ?_
          refine lv_aload_n hx hb dX8_thing_69 rfl (lv_at hl 0 rfl) ?_
          refine lv_aload_n hx hb dX8_thing_70 rfl (lv_at hl 0 rfl) ?_
          refine va_get (D := D) (ci := 7) (v := .ref (qN 1)) (C := RX8) (T := TX8) (N := 9) hx hb ht0 niX8 hown hK hP 0 rfl rfl 1 (by decide) (ht0 _ wd527) (fun _ h9 => h9) rfl dX8_thing_71 ?_
          refine lv_iload_n hx hb dX8_thing_74 rfl (lv_at hl 1 rfl) ?_
          obtain ⟨r75, hc75, hok⟩ := k_bind hok
          refine kCi (wc := (wX1_cellOf cy (qN 1) qD vD vD_now)) (wc2 := (wX1_cellOf cy (qN 1) qD vD vD_now)) (wr := [(aN, oX8 vN qN aH), (aH, oX4 vH qH), (qH 14, rI cy 7 vH_kinds), (qH 15, rI cy 7 vH_sizes)]) (ws2 := (wX8_thing cy aN qN aH qH qD vN vH vH_kinds vD vD_now vH_sizes)) (kRunV (As := [.int x1]) (rest := [.ref aN]) ⟨hx, hb, hml, hown, ht0⟩ (kX1_cellOf l D cy _ (qN 1) qD vD vD_now x1 r75 hc75 _ rfl) (cwV 1 ht0 (gV wd556 wd82 wd83 wd74 wd84) rfl rfl rfl (by decide +kernel) ⟨Nat.le_of_ble_eq_true rfl, Nat.le_of_ble_eq_true rfl⟩) hK hN hP hD [3, 4] rfl (by decide) 3 1 rfl rfl rfl hl.1 rfl (Nat.le_of_ble_eq_true rfl) dX8_thing_75 ⟨Nat.zero_le _, Nat.zero_le _⟩) hP hD hS hA [3, 4] [0, 1, 2, 5] rfl rfl (by decide) (by decide) [0, 1, 2, 4, 5, 3] (by decide) rfl rfl (fun H locs hP hD hS => ?_)
          obtain ⟨r78, hc78, hok⟩ := k_bind hok
          refine kCi (wc := (wX8_ringOfCell cy )) (wc2 := (wX8_ringOfCell cy )) (wr := [(aN, oX8 vN qN aH), (aH, oX4 vH qH), (qH 14, rI cy 7 vH_kinds), (qN 1, oX1 vD qD), (qD 0, rI cy 9 vD_now), (qH 15, rI cy 7 vH_sizes)]) (ws2 := (wX8_thing cy aN qN aH qH qD vN vH vH_kinds vD vD_now vH_sizes)) (kRunS (As := [.int r75]) (rest := [.ref aN]) ⟨hx, hb, hml, hown, ht0⟩ (kX8_ringOfCell l D cy _ r75 r78 hc78 _ rfl) (va_cwS 1 ht0 (gS wd557 wd58 wd57 wd56) rfl rfl rfl (by decide +kernel) ⟨Nat.le_of_ble_eq_true rfl, Nat.le_of_ble_eq_true rfl⟩) hK hN hP hD [] rfl (by decide) rfl hl.1 rfl (Nat.le_of_ble_eq_true rfl) dX8_thing_78 ⟨Nat.zero_le _, Nat.zero_le _⟩) hP hD hS hA [] [0, 1, 2, 3, 4, 5] rfl rfl (by decide) (by decide) [0, 1, 2, 3, 4, 5] (by decide) rfl rfl (fun H locs hP hD hS => ?_)
          obtain ⟨⟨r81, vN_81⟩, hc81, hok⟩ := k_bind hok
          try dsimp only at hok
          refine kCi (wc := (wX8_answer cy aN qN aH vN)) (wc2 := (wX8_answer cy aN qN aH vN_81)) (wr := [(aH, oX4 vH qH), (qH 14, rI cy 7 vH_kinds), (qN 1, oX1 vD qD), (qD 0, rI cy 9 vD_now), (qH 15, rI cy 7 vH_sizes)]) (ws2 := (wX8_thing cy aN qN aH qH qD vN_81 vH vH_kinds vD vD_now vH_sizes)) (kRunV (As := [.int r78]) (rest := []) ⟨hx, hb, hml, hown, ht0⟩ (kX8_answer l D cy _ aN qN aH vN r78 r81 vN_81 hc81 _ rfl) (cwV 1 ht0 (gV wd538 wd539 wd540 wd57 wd541) rfl rfl rfl (by decide +kernel) ⟨Nat.le_of_ble_eq_true rfl, Nat.le_of_ble_eq_true rfl⟩) hK hN hP hD [0] rfl (by decide) 0 7 rfl rfl rfl hl.1 rfl (Nat.le_of_ble_eq_true rfl) dX8_thing_81 ⟨Nat.zero_le _, Nat.zero_le _⟩) hP hD hS hA [0] [1, 2, 3, 4, 5] rfl rfl (by decide) (by decide) [5, 0, 1, 2, 3, 4] (by decide) rfl rfl (fun H locs hP hD hS => ?_)
          cases hok
          subst hQe; exact W.iret hx hb hr (fun t ht hW => ⟨⟨_, (), rfl, rfl, by rw [ht]; exact hP, va_K.moved hW.alike hK, hD⟩, hS.F ht⟩) hS.2.2 dX8_thing_84
        have hok := k_neg c27_1 hok
        by_cases c27_2 : x2 = 2
        · have hok := k_pos c27_2 hok
          refine lv_tableIn (tgt := 85) (off := 58) hx hb dX8_thing_27 (by rw [c27_2]; decide) (by rw [c27_2]; decide) (by rw [c27_2]; decide) (by decide) ?_
          refine lv_aload_n hx hb dX8_thing_85 rfl (lv_at hl 0 rfl) ?_
          refine lv_aload_n hx hb dX8_thing_86 rfl (lv_at hl 0 rfl) ?_
          refine va_get (D := D) (ci := 7) (v := .ref (qN 1)) (C := RX8) (T := TX8) (N := 9) hx hb ht0 niX8 hown hK hP 0 rfl rfl 1 (by decide) (ht0 _ wd527) (fun _ h9 => h9) rfl dX8_thing_87 ?_
          refine lv_iload_n hx hb dX8_thing_90 rfl (lv_at hl 1 rfl) ?_
          obtain ⟨r91, hc91, hok⟩ := k_bind hok
          refine kCi (wc := (wX1_cellOf cy (qN 1) qD vD vD_now)) (wc2 := (wX1_cellOf cy (qN 1) qD vD vD_now)) (wr := [(aN, oX8 vN qN aH), (aH, oX4 vH qH), (qH 14, rI cy 7 vH_kinds), (qH 15, rI cy 7 vH_sizes)]) (ws2 := (wX8_thing cy aN qN aH qH qD vN vH vH_kinds vD vD_now vH_sizes)) (kRunV (As := [.int x1]) (rest := [.ref aN]) ⟨hx, hb, hml, hown, ht0⟩ (kX1_cellOf l D cy _ (qN 1) qD vD vD_now x1 r91 hc91 _ rfl) (cwV 1 ht0 (gV wd556 wd82 wd83 wd74 wd84) rfl rfl rfl (by decide +kernel) ⟨Nat.le_of_ble_eq_true rfl, Nat.le_of_ble_eq_true rfl⟩) hK hN hP hD [3, 4] rfl (by decide) 3 1 rfl rfl rfl hl.1 rfl (Nat.le_of_ble_eq_true rfl) dX8_thing_91 ⟨Nat.zero_le _, Nat.zero_le _⟩) hP hD hS hA [3, 4] [0, 1, 2, 5] rfl rfl (by decide) (by decide) [0, 1, 2, 4, 5, 3] (by decide) rfl rfl (fun H locs hP hD hS => ?_)
          obtain ⟨r94, hc94, hok⟩ := k_bind hok
          refine kCi (wc := (wX8_placeOfCell cy )) (wc2 := (wX8_placeOfCell cy )) (wr := [(aN, oX8 vN qN aH), (aH, oX4 vH qH), (qH 14, rI cy 7 vH_kinds), (qN 1, oX1 vD qD), (qD 0, rI cy 9 vD_now), (qH 15, rI cy 7 vH_sizes)]) (ws2 := (wX8_thing cy aN qN aH qH qD vN vH vH_kinds vD vD_now vH_sizes)) (kRunS (As := [.int r91]) (rest := [.ref aN]) ⟨hx, hb, hml, hown, ht0⟩ (kX8_placeOfCell l D cy _ r91 r94 hc94 _ rfl) (va_cwS 1 ht0 (gS wd558 wd559 wd57 wd560) rfl rfl rfl (by decide +kernel) ⟨Nat.le_of_ble_eq_true rfl, Nat.le_of_ble_eq_true rfl⟩) hK hN hP hD [] rfl (by decide) rfl hl.1 rfl (Nat.le_of_ble_eq_true rfl) dX8_thing_94 ⟨Nat.zero_le _, Nat.zero_le _⟩) hP hD hS hA [] [0, 1, 2, 3, 4, 5] rfl rfl (by decide) (by decide) [0, 1, 2, 3, 4, 5] (by decide) rfl rfl (fun H locs hP hD hS => ?_)
          obtain ⟨⟨r97, vN_97⟩, hc97, hok⟩ := k_bind hok
          try dsimp only at hok
          refine kCi (wc := (wX8_answer cy aN qN aH vN)) (wc2 := (wX8_answer cy aN qN aH vN_97)) (wr := [(aH, oX4 vH qH), (qH 14, rI cy 7 vH_kinds), (qN 1, oX1 vD qD), (qD 0, rI cy 9 vD_now), (qH 15, rI cy 7 vH_sizes)]) (ws2 := (wX8_thing cy aN qN aH qH qD vN_97 vH vH_kinds vD vD_now vH_sizes)) (kRunV (As := [.int r94]) (rest := []) ⟨hx, hb, hml, hown, ht0⟩ (kX8_answer l D cy _ aN qN aH vN r94 r97 vN_97 hc97 _ rfl) (cwV 1 ht0 (gV wd538 wd539 wd540 wd57 wd541) rfl rfl rfl (by decide +kernel) ⟨Nat.le_of_ble_eq_true rfl, Nat.le_of_ble_eq_true rfl⟩) hK hN hP hD [0] rfl (by decide) 0 7 rfl rfl rfl hl.1 rfl (Nat.le_of_ble_eq_true rfl) dX8_thing_97 ⟨Nat.zero_le _, Nat.zero_le _⟩) hP hD hS hA [0] [1, 2, 3, 4, 5] rfl rfl (by decide) (by decide) [5, 0, 1, 2, 3, 4] (by decide) rfl rfl (fun H locs hP hD hS => ?_)
          cases hok
          subst hQe; exact W.iret hx hb hr (fun t ht hW => ⟨⟨_, (), rfl, rfl, by rw [ht]; exact hP, va_K.moved hW.alike hK, hD⟩, hS.F ht⟩) hS.2.2 dX8_thing_100
        have hok := k_neg c27_2 hok
        by_cases c27_3 : x2 = 3
        · have hok := k_pos c27_3 hok
          refine lv_tableIn (tgt := 101) (off := 74) hx hb dX8_thing_27 (by rw [c27_3]; decide) (by rw [c27_3]; decide) (by rw [c27_3]; decide) (by decide) ?_
          refine lv_aload_n hx hb dX8_thing_101 rfl (lv_at hl 0 rfl) ?_
          refine lv_aload_n hx hb dX8_thing_102 rfl (lv_at hl 0 rfl) ?_
          refine va_get (D := D) (ci := 7) (v := .ref aH) (C := RX8) (T := TX8) (N := 9) hx hb ht0 niX8 hown hK hP 0 rfl rfl 5 (by decide) (ht0 _ wd522) (fun _ h9 => h9) rfl dX8_thing_103 ?_
          refine lv_iload_n hx hb dX8_thing_106 rfl (lv_at hl 1 rfl) ?_
          obtain ⟨r107, hc107, hok⟩ := k_bind hok
          refine kCi (wc := (wX4_sizeOf cy aH qH vH vH_sizes)) (wc2 := (wX4_sizeOf cy aH qH vH vH_sizes)) (wr := [(aN, oX8 vN qN aH), (qH 14, rI cy 7 vH_kinds), (qN 1, oX1 vD qD), (qD 0, rI cy 9 vD_now)]) (ws2 := (wX8_thing cy aN qN aH qH qD vN vH vH_kinds vD vD_now vH_sizes)) (kRunV (As := [.int x1]) (rest := [.ref aN]) ⟨hx, hb, hml, hown, ht0⟩ (kX4_sizeOf l D cy _ aH qH vH vH_sizes x1 r107 hc107 _ rfl) (cwV 1 ht0 (gV wd561 wd562 wd563 wd9 wd564) rfl rfl rfl (by decide +kernel) ⟨Nat.le_of_ble_eq_true rfl, Nat.le_of_ble_eq_true rfl⟩) hK hN hP hD [1, 5] rfl (by decide) 1 3 rfl rfl rfl hl.1 rfl (Nat.le_of_ble_eq_true rfl) dX8_thing_107 ⟨Nat.zero_le _, Nat.zero_le _⟩) hP hD hS hA [1, 5] [0, 2, 3, 4] rfl rfl (by decide) (by decide) [0, 4, 1, 2, 3, 5] (by decide) rfl rfl (fun H locs hP hD hS => ?_)
          obtain ⟨⟨r110, vN_110⟩, hc110, hok⟩ := k_bind hok
          try dsimp only at hok
          refine kCi (wc := (wX8_answer cy aN qN aH vN)) (wc2 := (wX8_answer cy aN qN aH vN_110)) (wr := [(aH, oX4 vH qH), (qH 14, rI cy 7 vH_kinds), (qN 1, oX1 vD qD), (qD 0, rI cy 9 vD_now), (qH 15, rI cy 7 vH_sizes)]) (ws2 := (wX8_thing cy aN qN aH qH qD vN_110 vH vH_kinds vD vD_now vH_sizes)) (kRunV (As := [.int r107]) (rest := []) ⟨hx, hb, hml, hown, ht0⟩ (kX8_answer l D cy _ aN qN aH vN r107 r110 vN_110 hc110 _ rfl) (cwV 1 ht0 (gV wd538 wd539 wd540 wd57 wd541) rfl rfl rfl (by decide +kernel) ⟨Nat.le_of_ble_eq_true rfl, Nat.le_of_ble_eq_true rfl⟩) hK hN hP hD [0] rfl (by decide) 0 7 rfl rfl rfl hl.1 rfl (Nat.le_of_ble_eq_true rfl) dX8_thing_110 ⟨Nat.zero_le _, Nat.zero_le _⟩) hP hD hS hA [0] [1, 2, 3, 4, 5] rfl rfl (by decide) (by decide) [5, 0, 1, 2, 3, 4] (by decide) rfl rfl (fun H locs hP hD hS => ?_)
          cases hok
          subst hQe; exact W.iret hx hb hr (fun t ht hW => ⟨⟨_, (), rfl, rfl, by rw [ht]; exact hP, va_K.moved hW.alike hK, hD⟩, hS.F ht⟩) hS.2.2 dX8_thing_113
        have hok := k_neg c27_3 hok
        refine lv_tableOut (tgt := 114) hx hb dX8_thing_27 (by have q0 := lv_neT c27_0 (a := 0) (by decide); have q1 := lv_neT c27_1 (a := 1) (by decide); have q2 := lv_neT c27_2 (a := 2) (by decide); have q3 := lv_neT c27_3 (a := 3) (by decide); omega) (by decide) ?_
        refine lv_aload_n hx hb dX8_thing_114 rfl (lv_at hl 0 rfl) ?_
        refine lv_aload_n hx hb dX8_thing_115 rfl (lv_at hl 0 rfl) ?_
        refine va_get (D := D) (ci := 7) (v := .ref (qN 1)) (C := RX8) (T := TX8) (N := 9) hx hb ht0 niX8 hown hK hP 0 rfl rfl 1 (by decide) (ht0 _ wd527) (fun _ h9 => h9) rfl dX8_thing_116 ?_
        refine lv_iload_n hx hb dX8_thing_119 rfl (lv_at hl 1 rfl) ?_
        obtain ⟨r120, hc120, hok⟩ := k_bind hok
        refine kCi (wc := (wX1_isHeld cy (qN 1) qD vD vD_now)) (wc2 := (wX1_isHeld cy (qN 1) qD vD vD_now)) (wr := [(aN, oX8 vN qN aH), (aH, oX4 vH qH), (qH 14, rI cy 7 vH_kinds), (qH 15, rI cy 7 vH_sizes)]) (ws2 := (wX8_thing cy aN qN aH qH qD vN vH vH_kinds vD vD_now vH_sizes)) (kRunV (As := [.int x1]) (rest := [.ref aN]) ⟨hx, hb, hml, hown, ht0⟩ (kX1_isHeld l D cy _ (qN 1) qD vD vD_now x1 r120 hc120 _ rfl) (cwV 1 ht0 (gV wd565 wd72 wd73 wd74 wd75) rfl rfl rfl (by decide +kernel) ⟨Nat.le_of_ble_eq_true rfl, Nat.le_of_ble_eq_true rfl⟩) hK hN hP hD [3, 4] rfl (by decide) 3 1 rfl rfl rfl hl.1 rfl (Nat.le_of_ble_eq_true rfl) dX8_thing_120 ⟨Nat.zero_le _, Nat.zero_le _⟩) hP hD hS hA [3, 4] [0, 1, 2, 5] rfl rfl (by decide) (by decide) [0, 1, 2, 4, 5, 3] (by decide) rfl rfl (fun H locs hP hD hS => ?_)
        refine lv_if_eq (tgt := 130) hx hb dX8_thing_123 (by decide) (fun c123 => ?_) (fun c123 => ?_)
        · have hok := k_pos c123 hok
          refine lv_iconst (v := 0) hx hb dX8_thing_130 (by decide) ?_
          exact J131 (0 : Int32) H locs ls hP hD hS (lv_sub hl [] rfl) hok
        · have hok := k_neg c123 hok
          refine lv_iconst (v := 1) hx hb dX8_thing_126 (by decide) ?_
          refine lv_goto (tgt := 131) hx hb dX8_thing_127 (by decide) ?_
          exact J131 (1 : Int32) H locs ls hP hD hS (lv_sub hl [] rfl) hok
      · have hok := k_neg c17 hok
        exact J20  H locs ls hP hD hS (lv_sub hl [0] rfl) hok
def wsX8_at : List Cond := .code yX8_at cX8_at 4 (some .int) :: W0
abbrev wX8_at (cy : Nat → ClassId) (aN : Nat) (qN : Nat → Nat) (aH : Nat) (qH : Nat → Nat) (qD : Nat → Nat) (vN : Nat → Int32) (vH : Nat → Int32) (vH_places : Nat → Int32) (vD : Nat → Int32) (vD_now : Nat → Int32) : va_W := [(aN, oX8 vN qN aH), (aH, oX4 vH qH), (qH 9, rI cy 4 vH_places), (qN 1, oX1 vD qD), (qD 0, rI cy 9 vD_now)]
set_option maxHeartbeats 4000000 in
set_option maxRecDepth 100000 in
theorem kX8_at (l : Launch) (D : va_G) (cy : Nat → ClassId) (sz : Nat) (aN : Nat) (qN : Nat → Nat) (aH : Nat) (qH : Nat → Nat) (qD : Nat → Nat) (vN : Nat → Int32) (vH : Nat → Int32) (vH_places : Nat → Int32) (vD : Nat → Int32) (vD_now : Nat → Int32) (x1 : Int32) (x2 : Int32) (zr : Int32) (z_vN : Nat → Int32) (hok : fX8_at vN vH vH_places vD vD_now x1 x2 = some (zr, z_vN)) (A : Nat → Prop) (hAe : va_A (wX8_at cy aN qN aH qH qD vN vH vH_places vD vD_now) sz = A) : Met l yX8_at wsX8_at ({ frames := 2, cells := 0, slots := 0, locals := 43 } : Room) (kPre D cy [.ref aN, .int x1, .int x2] (wX8_at cy aN qN aH qH qD vN vH vH_places vD vD_now) sz) (kQi D cy zr A (wX8_at cy aN qN aH qH qD z_vN vH vH_places vD vD_now)) 0 0 A := by
  refine Met.ofW (cc := cX8_at) (maxL := 4) (ret := (some .int)) (by decide) rfl ?_
  intro p e s m args below meth c s₁ B hml hv
  obtain ⟨rfl, hsz, hP, hK, hD0, hN⟩ := hv
  have hx := B.exec
  have hb := B.bytes
  have hr := B.returns
  have ht0 : ∀ w ∈ W0, w.before _ s = true := fun w h => atoms_spec (ws := wsX8_at) B.pre w (List.mem_cons_of_mem _ h)
  have hown : s.vm.findClass RX8 = some m.cls := findClass_of_methodNamed B.named
  have hlocks := B.notSynchronized
  subst hsz
  have hD : va_D A (wX8_at cy aN qN aH qH qD vN vH vH_places vD vD_now) := by rw [← hAe]; exact hD0.self
  have hA : ∀ q : Nat, s.heap.size ≤ q → A q := fun q h => by rw [← hAe]; exact Or.inr h
  have hS : va_S A s.heap s.heap [] := va_S.rf
  have hl := lv_entry ([.ref aN, .int x1, .int x2]) (n := 4) (Nat.le_of_ble_eq_true rfl)
  rw [lg_entry_eq]
  generalize (lg_sl ([.ref aN, .int x1, .int x2]) ++ List.replicate (4 - (lg_sl ([.ref aN, .int x1, .int x2])).length) Slot.unset).toArray = ls at hl ⊢
  have hl : lv_has ls 4 [(0, .ref aN), (1, .int x1), (2, .int x2)] := hl
  generalize hQe : MQ below (kQi D cy zr A (wX8_at cy aN qN aH qH qD z_vN vH vH_places vD vD_now)) ([.ref aN, .int x1, .int x2] : List Value).toArray s 0 0 A = Q
  have J49 : ∀ (t0_49 : Int32), ∀ (H : Heap) (locs : List Loc) (ls : Array Slot), va_P D vwCl (wX8_at cy aN qN aH qH qD vN vH vH_places vD vD_now) H → va_D A (wX8_at cy aN qN aH qH qD vN vH vH_places vD vD_now) → va_S A s.heap H locs → lv_has ls 4 [] → fX8_at_J49 vN t0_49 = some (zr, z_vN) → W p l e ({ frames := 2, cells := 0, slots := 0, locals := 43 } : Room) s m ([.ref aN, .int x1, .int x2] : List Value).toArray below meth c H locs 0 0 Q (F0 m 49 ls [.int t0_49, .ref aN]) := by
    intro t0_49 H locs ls hP hD hS hl hok
    unfold fX8_at_J49 at hok
    obtain ⟨⟨r49, vN_49⟩, hc49, hok⟩ := k_bind hok
    try dsimp only at hok
    refine kCi (wc := (wX8_answer cy aN qN aH vN)) (wc2 := (wX8_answer cy aN qN aH vN_49)) (wr := [(aH, oX4 vH qH), (qH 9, rI cy 4 vH_places), (qN 1, oX1 vD qD), (qD 0, rI cy 9 vD_now)]) (ws2 := (wX8_at cy aN qN aH qH qD vN_49 vH vH_places vD vD_now)) (kRunV (As := [.int t0_49]) (rest := []) ⟨hx, hb, hml, hown, ht0⟩ (kX8_answer l D cy _ aN qN aH vN t0_49 r49 vN_49 hc49 _ rfl) (cwV 1 ht0 (gV wd538 wd539 wd540 wd57 wd541) rfl rfl rfl (by decide +kernel) ⟨Nat.le_of_ble_eq_true rfl, Nat.le_of_ble_eq_true rfl⟩) hK hN hP hD [0] rfl (by decide) 0 7 rfl rfl rfl hl.1 rfl (Nat.le_of_ble_eq_true rfl) dX8_at_49 ⟨Nat.zero_le _, Nat.zero_le _⟩) hP hD hS hA [0] [1, 2, 3, 4] rfl rfl (by decide) (by decide) [4, 0, 1, 2, 3] (by decide) rfl rfl (fun H locs hP hD hS => ?_)
    cases hok
    subst hQe; exact W.iret hx hb hr (fun t ht hW => ⟨⟨_, (), rfl, rfl, by rw [ht]; exact hP, va_K.moved hW.alike hK, hD⟩, hS.F ht⟩) hS.2.2 dX8_at_52
  unfold fX8_at at hok
  obtain ⟨H, hH⟩ : ∃ H, H = s.heap := ⟨_, rfl⟩
  obtain ⟨locs, hlc⟩ : ∃ x : List Loc, x = [] := ⟨_, rfl⟩
  have hP : va_P D vwCl (wX8_at cy aN qN aH qH qD vN vH vH_places vD vD_now) H := by rw [hH]; exact hP
  have hS : va_S A s.heap H locs := by rw [hH, hlc]; exact hS
  rw [show W p l e _ s m _ below meth c s.heap [] = W p l e _ s m _ below meth c H locs from by rw [hH, hlc]]
  refine lv_aload_n hx hb dX8_at_0 rfl (lv_at hl 0 rfl) ?_
  refine va_get (D := D) (ci := 7) (v := .ref aH) (C := RX8) (T := TX8) (N := 9) hx hb ht0 niX8 hown hK hP 0 rfl rfl 5 (by decide) (ht0 _ wd522) (fun _ h9 => h9) rfl dX8_at_1 ?_
  refine lv_iload_n hx hb dX8_at_4 rfl (lv_at hl 1 rfl) ?_
  refine lv_iload_n hx hb dX8_at_5 rfl (lv_at hl 2 rfl) ?_
  obtain ⟨r6, hc6, hok⟩ := k_bind hok
  refine kCi (wc := (wX4_hasPlace cy aH qH vH vH_places)) (wc2 := (wX4_hasPlace cy aH qH vH vH_places)) (wr := [(aN, oX8 vN qN aH), (qN 1, oX1 vD qD), (qD 0, rI cy 9 vD_now)]) (ws2 := (wX8_at cy aN qN aH qH qD vN vH vH_places vD vD_now)) (kRunV (As := [.int x1, .int x2]) (rest := []) ⟨hx, hb, hml, hown, ht0⟩ (kX4_hasPlace l D cy _ aH qH vH vH_places x1 x2 r6 hc6 _ rfl) (cwV 2 ht0 (gV wd566 wd567 wd568 wd9 wd569) rfl rfl rfl (by decide +kernel) ⟨Nat.le_of_ble_eq_true rfl, Nat.le_of_ble_eq_true rfl⟩) hK hN hP hD [1, 2] rfl (by decide) 1 3 rfl rfl rfl hl.1 rfl (Nat.le_of_ble_eq_true rfl) dX8_at_6 ⟨Nat.zero_le _, Nat.zero_le _⟩) hP hD hS hA [1, 2] [0, 3, 4] rfl rfl (by decide) (by decide) [0, 3, 4, 1, 2] (by decide) rfl rfl (fun H locs hP hD hS => ?_)
  refine lv_if_ne (tgt := 18) hx hb dX8_at_9 (by decide) (fun c9 => ?_) (fun c9 => ?_)
  · have hok := k_neg c9 hok
    refine lv_aload_n hx hb dX8_at_18 rfl (lv_at hl 0 rfl) ?_
    refine va_get (D := D) (ci := 7) (v := .ref (qN 1)) (C := RX8) (T := TX8) (N := 9) hx hb ht0 niX8 hown hK hP 0 rfl rfl 1 (by decide) (ht0 _ wd527) (fun _ h9 => h9) rfl dX8_at_19 ?_
    refine lv_iload_n hx hb dX8_at_22 rfl (lv_at hl 1 rfl) ?_
    refine lv_iload_n hx hb dX8_at_23 rfl (lv_at hl 2 rfl) ?_
    obtain ⟨r24, hc24, hok⟩ := k_bind hok
    refine kCi (wc := (wX8_cellAt cy )) (wc2 := (wX8_cellAt cy )) (wr := [(aN, oX8 vN qN aH), (aH, oX4 vH qH), (qH 9, rI cy 4 vH_places), (qN 1, oX1 vD qD), (qD 0, rI cy 9 vD_now)]) (ws2 := (wX8_at cy aN qN aH qH qD vN vH vH_places vD vD_now)) (kRunS (As := [.int x1, .int x2]) (rest := [.ref (qN 1)]) ⟨hx, hb, hml, hown, ht0⟩ (kX8_cellAt l D cy _ x1 x2 r24 hc24 _ rfl) (va_cwS 2 ht0 (gS wd570 wd261 wd57 wd260) rfl rfl rfl (by decide +kernel) ⟨Nat.le_of_ble_eq_true rfl, Nat.le_of_ble_eq_true rfl⟩) hK hN hP hD [] rfl (by decide) rfl hl.1 rfl (Nat.le_of_ble_eq_true rfl) dX8_at_24 ⟨Nat.zero_le _, Nat.zero_le _⟩) hP hD hS hA [] [0, 1, 2, 3, 4] rfl rfl (by decide) (by decide) [0, 1, 2, 3, 4] (by decide) rfl rfl (fun H locs hP hD hS => ?_)
    refine lv_aload_n hx hb dX8_at_27 rfl (lv_at hl 0 rfl) ?_
    refine va_get (D := D) (ci := 7) (v := .ref aH) (C := RX8) (T := TX8) (N := 9) hx hb ht0 niX8 hown hK hP 0 rfl rfl 5 (by decide) (ht0 _ wd522) (fun _ h9 => h9) rfl dX8_at_28 ?_
    refine va_get (D := D) (ci := 3) (v := .int (vH 5)) (C := RX4) (T := TX4) (N := 20) hx hb ht0 niX4 hown hK hP 1 rfl rfl 5 (by decide) (ht0 _ wd543) (fun _ h9 => h9) rfl dX8_at_31 ?_
    obtain ⟨r34, hc34, hok⟩ := k_bind hok
    refine kCi (wc := (wX1_thingAt cy (qN 1) qD vD vD_now)) (wc2 := (wX1_thingAt cy (qN 1) qD vD vD_now)) (wr := [(aN, oX8 vN qN aH), (aH, oX4 vH qH), (qH 9, rI cy 4 vH_places)]) (ws2 := (wX8_at cy aN qN aH qH qD vN vH vH_places vD vD_now)) (kRunV (As := [.int r24, .int (vH 5)]) (rest := []) ⟨hx, hb, hml, hown, ht0⟩ (kX1_thingAt l D cy _ (qN 1) qD vD vD_now r24 (vH 5) r34 hc34 _ rfl) (cwV 2 ht0 (gV wd571 wd572 wd573 wd74 wd574) rfl rfl rfl (by decide +kernel) ⟨Nat.le_of_ble_eq_true rfl, Nat.le_of_ble_eq_true rfl⟩) hK hN hP hD [3, 4] rfl (by decide) 3 1 rfl rfl rfl hl.1 rfl (Nat.le_of_ble_eq_true rfl) dX8_at_34 ⟨Nat.zero_le _, Nat.zero_le _⟩) hP hD hS hA [3, 4] [0, 1, 2] rfl rfl (by decide) (by decide) [0, 1, 2, 3, 4] (by decide) rfl rfl (fun H locs hP hD hS => ?_)
    refine lv_istore_n (lv' := [(3, .int r34), (0, .ref aN), (1, .int x1), (2, .int x2)]) hx hb dX8_at_37 rfl hl (by decide) rfl (fun ls hl => ?_)
    refine lv_aload_n hx hb dX8_at_38 rfl (lv_at hl 1 rfl) ?_
    refine lv_iload_n hx hb dX8_at_39 rfl (lv_at hl 0 rfl) ?_
    refine lv_if_ge (tgt := 48) hx hb dX8_at_40 (by decide) (fun c40 => ?_) (fun c40 => ?_)
    · have hok := k_pos c40 hok
      refine lv_iload_n hx hb dX8_at_48 rfl (lv_at hl 0 rfl) ?_
      exact J49 r34 H locs ls hP hD hS (lv_sub hl [] rfl) hok
    · have hok := k_neg c40 hok
      refine lv_bipush (v := -2) hx hb dX8_at_43 (by decide) ?_
      refine lv_goto (tgt := 49) hx hb dX8_at_45 (by decide) ?_
      exact J49 (-2 : Int32) H locs ls hP hD hS (lv_sub hl [] rfl) hok
  · have hok := k_pos c9 hok
    refine lv_aload_n hx hb dX8_at_12 rfl (lv_at hl 0 rfl) ?_
    refine lv_iconst (v := 1) hx hb dX8_at_13 (by decide) ?_
    obtain ⟨⟨r14, vN_14⟩, hc14, hok⟩ := k_bind hok
    try dsimp only at hok
    refine kCi (wc := (wX8_refuse cy aN qN aH vN)) (wc2 := (wX8_refuse cy aN qN aH vN_14)) (wr := [(aH, oX4 vH qH), (qH 9, rI cy 4 vH_places), (qN 1, oX1 vD qD), (qD 0, rI cy 9 vD_now)]) (ws2 := (wX8_at cy aN qN aH qH qD vN_14 vH vH_places vD vD_now)) (kRunV (As := [.int 1]) (rest := []) ⟨hx, hb, hml, hown, ht0⟩ (kX8_refuse l D cy _ aN qN aH vN (1 : Int32) r14 vN_14 hc14 _ rfl) (cwV 1 ht0 (gV wd504 wd505 wd506 wd57 wd507) rfl rfl rfl (by decide +kernel) ⟨Nat.le_of_ble_eq_true rfl, Nat.le_of_ble_eq_true rfl⟩) hK hN hP hD [0] rfl (by decide) 0 7 rfl rfl rfl hl.1 rfl (Nat.le_of_ble_eq_true rfl) dX8_at_14 ⟨Nat.zero_le _, Nat.zero_le _⟩) hP hD hS hA [0] [1, 2, 3, 4] rfl rfl (by decide) (by decide) [4, 0, 1, 2, 3] (by decide) rfl rfl (fun H locs hP hD hS => ?_)
    cases hok
    subst hQe; exact W.iret hx hb hr (fun t ht hW => ⟨⟨_, (), rfl, rfl, by rw [ht]; exact hP, va_K.moved hW.alike hK, hD⟩, hS.F ht⟩) hS.2.2 dX8_at_17
def wsX8_narrow : List Cond := .code yX8_narrow cX8_narrow 4 (some .int) :: W0
abbrev wX8_narrow (cy : Nat → ClassId) (aN : Nat) (qN : Nat → Nat) (aH : Nat) (qH : Nat → Nat) (vN : Nat → Int32) (vH : Nat → Int32) (vH_places : Nat → Int32) (vH_width : Nat → Int32) : va_W := [(aN, oX8 vN qN aH), (aH, oX4 vH qH), (qH 9, rI cy 4 vH_places), (qH 11, rI cy 36 vH_width)]
set_option maxHeartbeats 4000000 in
set_option maxRecDepth 100000 in
theorem kX8_narrow (l : Launch) (D : va_G) (cy : Nat → ClassId) (sz : Nat) (aN : Nat) (qN : Nat → Nat) (aH : Nat) (qH : Nat → Nat) (vN : Nat → Int32) (vH : Nat → Int32) (vH_places : Nat → Int32) (vH_width : Nat → Int32) (x1 : Int32) (x2 : Int32) (zr : Int32) (z_vN : Nat → Int32) (hok : fX8_narrow vN vH vH_places vH_width x1 x2 = some (zr, z_vN)) (A : Nat → Prop) (hAe : va_A (wX8_narrow cy aN qN aH qH vN vH vH_places vH_width) sz = A) : Met l yX8_narrow wsX8_narrow ({ frames := 2, cells := 0, slots := 0, locals := 43 } : Room) (kPre D cy [.ref aN, .int x1, .int x2] (wX8_narrow cy aN qN aH qH vN vH vH_places vH_width) sz) (kQi D cy zr A (wX8_narrow cy aN qN aH qH z_vN vH vH_places vH_width)) 0 0 A := by
  refine Met.ofW (cc := cX8_narrow) (maxL := 4) (ret := (some .int)) (by decide) rfl ?_
  intro p e s m args below meth c s₁ B hml hv
  obtain ⟨rfl, hsz, hP, hK, hD0, hN⟩ := hv
  have hx := B.exec
  have hb := B.bytes
  have hr := B.returns
  have ht0 : ∀ w ∈ W0, w.before _ s = true := fun w h => atoms_spec (ws := wsX8_narrow) B.pre w (List.mem_cons_of_mem _ h)
  have hown : s.vm.findClass RX8 = some m.cls := findClass_of_methodNamed B.named
  have hlocks := B.notSynchronized
  subst hsz
  have hD : va_D A (wX8_narrow cy aN qN aH qH vN vH vH_places vH_width) := by rw [← hAe]; exact hD0.self
  have hA : ∀ q : Nat, s.heap.size ≤ q → A q := fun q h => by rw [← hAe]; exact Or.inr h
  have hS : va_S A s.heap s.heap [] := va_S.rf
  have hl := lv_entry ([.ref aN, .int x1, .int x2]) (n := 4) (Nat.le_of_ble_eq_true rfl)
  rw [lg_entry_eq]
  generalize (lg_sl ([.ref aN, .int x1, .int x2]) ++ List.replicate (4 - (lg_sl ([.ref aN, .int x1, .int x2])).length) Slot.unset).toArray = ls at hl ⊢
  have hl : lv_has ls 4 [(0, .ref aN), (1, .int x1), (2, .int x2)] := hl
  generalize hQe : MQ below (kQi D cy zr A (wX8_narrow cy aN qN aH qH z_vN vH vH_places vH_width)) ([.ref aN, .int x1, .int x2] : List Value).toArray s 0 0 A = Q
  have J44 : ∀ (t0_44 : Int32), ∀ (H : Heap) (locs : List Loc) (ls : Array Slot), va_P D vwCl (wX8_narrow cy aN qN aH qH vN vH vH_places vH_width) H → va_D A (wX8_narrow cy aN qN aH qH vN vH vH_places vH_width) → va_S A s.heap H locs → lv_has ls 4 [] → fX8_narrow_J44 vN t0_44 = some (zr, z_vN) → W p l e ({ frames := 2, cells := 0, slots := 0, locals := 43 } : Room) s m ([.ref aN, .int x1, .int x2] : List Value).toArray below meth c H locs 0 0 Q (F0 m 44 ls [.int t0_44, .ref aN]) := by
    intro t0_44 H locs ls hP hD hS hl hok
    unfold fX8_narrow_J44 at hok
    obtain ⟨⟨r44, vN_44⟩, hc44, hok⟩ := k_bind hok
    try dsimp only at hok
    refine kCi (wc := (wX8_answer cy aN qN aH vN)) (wc2 := (wX8_answer cy aN qN aH vN_44)) (wr := [(aH, oX4 vH qH), (qH 9, rI cy 4 vH_places), (qH 11, rI cy 36 vH_width)]) (ws2 := (wX8_narrow cy aN qN aH qH vN_44 vH vH_places vH_width)) (kRunV (As := [.int t0_44]) (rest := []) ⟨hx, hb, hml, hown, ht0⟩ (kX8_answer l D cy _ aN qN aH vN t0_44 r44 vN_44 hc44 _ rfl) (cwV 1 ht0 (gV wd538 wd539 wd540 wd57 wd541) rfl rfl rfl (by decide +kernel) ⟨Nat.le_of_ble_eq_true rfl, Nat.le_of_ble_eq_true rfl⟩) hK hN hP hD [0] rfl (by decide) 0 7 rfl rfl rfl hl.1 rfl (Nat.le_of_ble_eq_true rfl) dX8_narrow_44 ⟨Nat.zero_le _, Nat.zero_le _⟩) hP hD hS hA [0] [1, 2, 3] rfl rfl (by decide) (by decide) [3, 0, 1, 2] (by decide) rfl rfl (fun H locs hP hD hS => ?_)
    cases hok
    subst hQe; exact W.iret hx hb hr (fun t ht hW => ⟨⟨_, (), rfl, rfl, by rw [ht]; exact hP, va_K.moved hW.alike hK, hD⟩, hS.F ht⟩) hS.2.2 dX8_narrow_47
  unfold fX8_narrow at hok
  obtain ⟨H, hH⟩ : ∃ H, H = s.heap := ⟨_, rfl⟩
  obtain ⟨locs, hlc⟩ : ∃ x : List Loc, x = [] := ⟨_, rfl⟩
  have hP : va_P D vwCl (wX8_narrow cy aN qN aH qH vN vH vH_places vH_width) H := by rw [hH]; exact hP
  have hS : va_S A s.heap H locs := by rw [hH, hlc]; exact hS
  rw [show W p l e _ s m _ below meth c s.heap [] = W p l e _ s m _ below meth c H locs from by rw [hH, hlc]]
  refine lv_aload_n hx hb dX8_narrow_0 rfl (lv_at hl 0 rfl) ?_
  refine va_get (D := D) (ci := 7) (v := .ref aH) (C := RX8) (T := TX8) (N := 9) hx hb ht0 niX8 hown hK hP 0 rfl rfl 5 (by decide) (ht0 _ wd522) (fun _ h9 => h9) rfl dX8_narrow_1 ?_
  refine lv_iload_n hx hb dX8_narrow_4 rfl (lv_at hl 1 rfl) ?_
  refine lv_iload_n hx hb dX8_narrow_5 rfl (lv_at hl 2 rfl) ?_
  obtain ⟨r6, hc6, hok⟩ := k_bind hok
  refine kCi (wc := (wX4_hasPlace cy aH qH vH vH_places)) (wc2 := (wX4_hasPlace cy aH qH vH vH_places)) (wr := [(aN, oX8 vN qN aH), (qH 11, rI cy 36 vH_width)]) (ws2 := (wX8_narrow cy aN qN aH qH vN vH vH_places vH_width)) (kRunV (As := [.int x1, .int x2]) (rest := []) ⟨hx, hb, hml, hown, ht0⟩ (kX4_hasPlace l D cy _ aH qH vH vH_places x1 x2 r6 hc6 _ rfl) (cwV 2 ht0 (gV wd566 wd567 wd568 wd9 wd569) rfl rfl rfl (by decide +kernel) ⟨Nat.le_of_ble_eq_true rfl, Nat.le_of_ble_eq_true rfl⟩) hK hN hP hD [1, 2] rfl (by decide) 1 3 rfl rfl rfl hl.1 rfl (Nat.le_of_ble_eq_true rfl) dX8_narrow_6 ⟨Nat.zero_le _, Nat.zero_le _⟩) hP hD hS hA [1, 2] [0, 3] rfl rfl (by decide) (by decide) [0, 2, 3, 1] (by decide) rfl rfl (fun H locs hP hD hS => ?_)
  refine lv_if_ne (tgt := 18) hx hb dX8_narrow_9 (by decide) (fun c9 => ?_) (fun c9 => ?_)
  · have hok := k_neg c9 hok
    refine lv_aload_n hx hb dX8_narrow_18 rfl (lv_at hl 0 rfl) ?_
    refine va_get (D := D) (ci := 7) (v := .ref aH) (C := RX8) (T := TX8) (N := 9) hx hb ht0 niX8 hown hK hP 0 rfl rfl 5 (by decide) (ht0 _ wd522) (fun _ h9 => h9) rfl dX8_narrow_19 ?_
    refine lv_iload_n hx hb dX8_narrow_22 rfl (lv_at hl 1 rfl) ?_
    refine lv_iload_n hx hb dX8_narrow_23 rfl (lv_at hl 2 rfl) ?_
    obtain ⟨r24, hc24, hok⟩ := k_bind hok
    refine kCi (wc := (wX8_cellAt cy )) (wc2 := (wX8_cellAt cy )) (wr := [(aN, oX8 vN qN aH), (aH, oX4 vH qH), (qH 9, rI cy 4 vH_places), (qH 11, rI cy 36 vH_width)]) (ws2 := (wX8_narrow cy aN qN aH qH vN vH vH_places vH_width)) (kRunS (As := [.int x1, .int x2]) (rest := [.ref aH]) ⟨hx, hb, hml, hown, ht0⟩ (kX8_cellAt l D cy _ x1 x2 r24 hc24 _ rfl) (va_cwS 2 ht0 (gS wd570 wd261 wd57 wd260) rfl rfl rfl (by decide +kernel) ⟨Nat.le_of_ble_eq_true rfl, Nat.le_of_ble_eq_true rfl⟩) hK hN hP hD [] rfl (by decide) rfl hl.1 rfl (Nat.le_of_ble_eq_true rfl) dX8_narrow_24 ⟨Nat.zero_le _, Nat.zero_le _⟩) hP hD hS hA [] [0, 1, 2, 3] rfl rfl (by decide) (by decide) [0, 1, 2, 3] (by decide) rfl rfl (fun H locs hP hD hS => ?_)
    obtain ⟨r27, hc27, hok⟩ := k_bind hok
    refine kCi (wc := (wX4_widthOf cy aH qH vH vH_width)) (wc2 := (wX4_widthOf cy aH qH vH vH_width)) (wr := [(aN, oX8 vN qN aH), (qH 9, rI cy 4 vH_places)]) (ws2 := (wX8_narrow cy aN qN aH qH vN vH vH_places vH_width)) (kRunV (As := [.int r24]) (rest := []) ⟨hx, hb, hml, hown, ht0⟩ (kX4_widthOf l D cy _ aH qH vH vH_width r24 r27 hc27 _ rfl) (cwV 1 ht0 (gV wd575 wd393 wd394 wd9 wd395) rfl rfl rfl (by decide +kernel) ⟨Nat.le_of_ble_eq_true rfl, Nat.le_of_ble_eq_true rfl⟩) hK hN hP hD [1, 3] rfl (by decide) 1 3 rfl rfl rfl hl.1 rfl (Nat.le_of_ble_eq_true rfl) dX8_narrow_27 ⟨Nat.zero_le _, Nat.zero_le _⟩) hP hD hS hA [1, 3] [0, 2] rfl rfl (by decide) (by decide) [0, 2, 1, 3] (by decide) rfl rfl (fun H locs hP hD hS => ?_)
    refine lv_istore_n (lv' := [(3, .int r27), (0, .ref aN), (1, .int x1), (2, .int x2)]) hx hb dX8_narrow_30 rfl hl (by decide) rfl (fun ls hl => ?_)
    refine lv_aload_n hx hb dX8_narrow_31 rfl (lv_at hl 1 rfl) ?_
    refine lv_iload_n hx hb dX8_narrow_32 rfl (lv_at hl 0 rfl) ?_
    refine lv_bipush (v := 10) hx hb dX8_narrow_33 (by decide) ?_
    refine lv_icmp_ne (tgt := 43) hx hb dX8_narrow_35 (by decide) (fun c35 => ?_) (fun c35 => ?_)
    · have hok := k_neg c35 hok
      refine lv_iload_n hx hb dX8_narrow_43 rfl (lv_at hl 0 rfl) ?_
      exact J44 r27 H locs ls hP hD hS (lv_sub hl [] rfl) hok
    · have hok := k_pos c35 hok
      refine lv_bipush (v := -2) hx hb dX8_narrow_38 (by decide) ?_
      refine lv_goto (tgt := 44) hx hb dX8_narrow_40 (by decide) ?_
      exact J44 (-2 : Int32) H locs ls hP hD hS (lv_sub hl [] rfl) hok
  · have hok := k_pos c9 hok
    refine lv_aload_n hx hb dX8_narrow_12 rfl (lv_at hl 0 rfl) ?_
    refine lv_iconst (v := 1) hx hb dX8_narrow_13 (by decide) ?_
    obtain ⟨⟨r14, vN_14⟩, hc14, hok⟩ := k_bind hok
    try dsimp only at hok
    refine kCi (wc := (wX8_refuse cy aN qN aH vN)) (wc2 := (wX8_refuse cy aN qN aH vN_14)) (wr := [(aH, oX4 vH qH), (qH 9, rI cy 4 vH_places), (qH 11, rI cy 36 vH_width)]) (ws2 := (wX8_narrow cy aN qN aH qH vN_14 vH vH_places vH_width)) (kRunV (As := [.int 1]) (rest := []) ⟨hx, hb, hml, hown, ht0⟩ (kX8_refuse l D cy _ aN qN aH vN (1 : Int32) r14 vN_14 hc14 _ rfl) (cwV 1 ht0 (gV wd504 wd505 wd506 wd57 wd507) rfl rfl rfl (by decide +kernel) ⟨Nat.le_of_ble_eq_true rfl, Nat.le_of_ble_eq_true rfl⟩) hK hN hP hD [0] rfl (by decide) 0 7 rfl rfl rfl hl.1 rfl (Nat.le_of_ble_eq_true rfl) dX8_narrow_14 ⟨Nat.zero_le _, Nat.zero_le _⟩) hP hD hS hA [0] [1, 2, 3] rfl rfl (by decide) (by decide) [3, 0, 1, 2] (by decide) rfl rfl (fun H locs hP hD hS => ?_)
    cases hok
    subst hQe; exact W.iret hx hb hr (fun t ht hW => ⟨⟨_, (), rfl, rfl, by rw [ht]; exact hP, va_K.moved hW.alike hK, hD⟩, hS.F ht⟩) hS.2.2 dX8_narrow_17
def wsX8_ahead : List Cond := .code yX8_ahead cX8_ahead 2 (some .int) :: W0
abbrev wX8_ahead (cy : Nat → ClassId) (aN : Nat) (qN : Nat → Nat) (aH : Nat) (qH : Nat → Nat) (qD : Nat → Nat) (vN : Nat → Int32) (vH : Nat → Int32) (vD : Nat → Int32) (vD_now : Nat → Int32) (vH_next : Nat → Int32) : va_W := [(aN, oX8 vN qN aH), (aH, oX4 vH qH), (qN 1, oX1 vD qD), (qD 0, rI cy 9 vD_now), (qH 10, rI cy 36 vH_next)]
set_option maxHeartbeats 4000000 in
set_option maxRecDepth 100000 in
theorem kX8_ahead (l : Launch) (D : va_G) (cy : Nat → ClassId) (sz : Nat) (aN : Nat) (qN : Nat → Nat) (aH : Nat) (qH : Nat → Nat) (qD : Nat → Nat) (vN : Nat → Int32) (vH : Nat → Int32) (vD : Nat → Int32) (vD_now : Nat → Int32) (vH_next : Nat → Int32) (x1 : Int32) (zr : Int32) (z_vN : Nat → Int32) (hok : fX8_ahead vN vH vD vD_now vH_next x1 = some (zr, z_vN)) (A : Nat → Prop) (hAe : va_A (wX8_ahead cy aN qN aH qH qD vN vH vD vD_now vH_next) sz = A) : Met l yX8_ahead wsX8_ahead ({ frames := 1, cells := 0, slots := 0, locals := 21 } : Room) (kPre D cy [.ref aN, .int x1] (wX8_ahead cy aN qN aH qH qD vN vH vD vD_now vH_next) sz) (kQi D cy zr A (wX8_ahead cy aN qN aH qH qD z_vN vH vD vD_now vH_next)) 0 0 A := by
  refine Met.ofW (cc := cX8_ahead) (maxL := 2) (ret := (some .int)) (by decide) rfl ?_
  intro p e s m args below meth c s₁ B hml hv
  obtain ⟨rfl, hsz, hP, hK, hD0, hN⟩ := hv
  have hx := B.exec
  have hb := B.bytes
  have hr := B.returns
  have ht0 : ∀ w ∈ W0, w.before _ s = true := fun w h => atoms_spec (ws := wsX8_ahead) B.pre w (List.mem_cons_of_mem _ h)
  have hown : s.vm.findClass RX8 = some m.cls := findClass_of_methodNamed B.named
  have hlocks := B.notSynchronized
  subst hsz
  have hD : va_D A (wX8_ahead cy aN qN aH qH qD vN vH vD vD_now vH_next) := by rw [← hAe]; exact hD0.self
  have hA : ∀ q : Nat, s.heap.size ≤ q → A q := fun q h => by rw [← hAe]; exact Or.inr h
  have hS : va_S A s.heap s.heap [] := va_S.rf
  have hl := lv_entry ([.ref aN, .int x1]) (n := 2) (Nat.le_of_ble_eq_true rfl)
  rw [lg_entry_eq]
  generalize (lg_sl ([.ref aN, .int x1]) ++ List.replicate (2 - (lg_sl ([.ref aN, .int x1])).length) Slot.unset).toArray = ls at hl ⊢
  have hl : lv_has ls 2 [(0, .ref aN), (1, .int x1)] := hl
  unfold fX8_ahead at hok
  obtain ⟨H, hH⟩ : ∃ H, H = s.heap := ⟨_, rfl⟩
  obtain ⟨locs, hlc⟩ : ∃ x : List Loc, x = [] := ⟨_, rfl⟩
  have hP : va_P D vwCl (wX8_ahead cy aN qN aH qH qD vN vH vD vD_now vH_next) H := by rw [hH]; exact hP
  have hS : va_S A s.heap H locs := by rw [hH, hlc]; exact hS
  rw [show W p l e _ s m _ below meth c s.heap [] = W p l e _ s m _ below meth c H locs from by rw [hH, hlc]]
  refine lv_aload_n hx hb dX8_ahead_0 rfl (lv_at hl 0 rfl) ?_
  refine va_get (D := D) (ci := 7) (v := .ref aH) (C := RX8) (T := TX8) (N := 9) hx hb ht0 niX8 hown hK hP 0 rfl rfl 5 (by decide) (ht0 _ wd522) (fun _ h9 => h9) rfl dX8_ahead_1 ?_
  refine lv_iload_n hx hb dX8_ahead_4 rfl (lv_at hl 1 rfl) ?_
  obtain ⟨r5, hc5, hok⟩ := k_bind hok
  refine kCi (wc := (wX4_hasThing cy aH qH vH)) (wc2 := (wX4_hasThing cy aH qH vH)) (wr := [(aN, oX8 vN qN aH), (qN 1, oX1 vD qD), (qD 0, rI cy 9 vD_now), (qH 10, rI cy 36 vH_next)]) (ws2 := (wX8_ahead cy aN qN aH qH qD vN vH vD vD_now vH_next)) (kRunV (As := [.int x1]) (rest := []) ⟨hx, hb, hml, hown, ht0⟩ (kX4_hasThing l D cy _ aH qH vH x1 r5 hc5 _ rfl) (cwV 1 ht0 (gV wd551 wd552 wd553 wd9 wd554) rfl rfl rfl (by decide +kernel) ⟨Nat.le_of_ble_eq_true rfl, Nat.le_of_ble_eq_true rfl⟩) hK hN hP hD [1] rfl (by decide) 1 3 rfl rfl rfl hl.1 rfl (Nat.le_of_ble_eq_true rfl) dX8_ahead_5 ⟨Nat.zero_le _, Nat.zero_le _⟩) hP hD hS hA [1] [0, 2, 3, 4] rfl rfl (by decide) (by decide) [0, 4, 1, 2, 3] (by decide) rfl rfl (fun H locs hP hD hS => ?_)
  refine lv_if_ne (tgt := 17) hx hb dX8_ahead_8 (by decide) (fun c8 => ?_) (fun c8 => ?_)
  · have hok := k_neg c8 hok
    refine lv_aload_n hx hb dX8_ahead_17 rfl (lv_at hl 0 rfl) ?_
    refine lv_aload_n hx hb dX8_ahead_18 rfl (lv_at hl 0 rfl) ?_
    refine va_get (D := D) (ci := 7) (v := .ref aH) (C := RX8) (T := TX8) (N := 9) hx hb ht0 niX8 hown hK hP 0 rfl rfl 5 (by decide) (ht0 _ wd522) (fun _ h9 => h9) rfl dX8_ahead_19 ?_
    refine lv_aload_n hx hb dX8_ahead_22 rfl (lv_at hl 0 rfl) ?_
    refine va_get (D := D) (ci := 7) (v := .ref (qN 1)) (C := RX8) (T := TX8) (N := 9) hx hb ht0 niX8 hown hK hP 0 rfl rfl 1 (by decide) (ht0 _ wd527) (fun _ h9 => h9) rfl dX8_ahead_23 ?_
    refine lv_iload_n hx hb dX8_ahead_26 rfl (lv_at hl 1 rfl) ?_
    obtain ⟨r27, hc27, hok⟩ := k_bind hok
    refine kCi (wc := (wX1_cellOf cy (qN 1) qD vD vD_now)) (wc2 := (wX1_cellOf cy (qN 1) qD vD vD_now)) (wr := [(aN, oX8 vN qN aH), (aH, oX4 vH qH), (qH 10, rI cy 36 vH_next)]) (ws2 := (wX8_ahead cy aN qN aH qH qD vN vH vD vD_now vH_next)) (kRunV (As := [.int x1]) (rest := [.ref aH, .ref aN]) ⟨hx, hb, hml, hown, ht0⟩ (kX1_cellOf l D cy _ (qN 1) qD vD vD_now x1 r27 hc27 _ rfl) (cwV 1 ht0 (gV wd556 wd82 wd83 wd74 wd84) rfl rfl rfl (by decide +kernel) ⟨Nat.le_of_ble_eq_true rfl, Nat.le_of_ble_eq_true rfl⟩) hK hN hP hD [2, 3] rfl (by decide) 2 1 rfl rfl rfl hl.1 rfl (Nat.le_of_ble_eq_true rfl) dX8_ahead_27 ⟨Nat.zero_le _, Nat.zero_le _⟩) hP hD hS hA [2, 3] [0, 1, 4] rfl rfl (by decide) (by decide) [0, 1, 3, 4, 2] (by decide) rfl rfl (fun H locs hP hD hS => ?_)
    obtain ⟨r30, hc30, hok⟩ := k_bind hok
    refine kCi (wc := (wX4_nextOf cy aH qH vH vH_next)) (wc2 := (wX4_nextOf cy aH qH vH vH_next)) (wr := [(aN, oX8 vN qN aH), (qN 1, oX1 vD qD), (qD 0, rI cy 9 vD_now)]) (ws2 := (wX8_ahead cy aN qN aH qH qD vN vH vD vD_now vH_next)) (kRunV (As := [.int r27]) (rest := [.ref aN]) ⟨hx, hb, hml, hown, ht0⟩ (kX4_nextOf l D cy _ aH qH vH vH_next r27 r30 hc30 _ rfl) (cwV 1 ht0 (gV wd576 wd139 wd140 wd9 wd141) rfl rfl rfl (by decide +kernel) ⟨Nat.le_of_ble_eq_true rfl, Nat.le_of_ble_eq_true rfl⟩) hK hN hP hD [1, 4] rfl (by decide) 1 3 rfl rfl rfl hl.1 rfl (Nat.le_of_ble_eq_true rfl) dX8_ahead_30 ⟨Nat.zero_le _, Nat.zero_le _⟩) hP hD hS hA [1, 4] [0, 2, 3] rfl rfl (by decide) (by decide) [0, 3, 1, 2, 4] (by decide) rfl rfl (fun H locs hP hD hS => ?_)
    obtain ⟨r33, hc33, hok⟩ := k_bind hok
    refine kCi (wc := (wX8_placeOfCell cy )) (wc2 := (wX8_placeOfCell cy )) (wr := [(aN, oX8 vN qN aH), (aH, oX4 vH qH), (qN 1, oX1 vD qD), (qD 0, rI cy 9 vD_now), (qH 10, rI cy 36 vH_next)]) (ws2 := (wX8_ahead cy aN qN aH qH qD vN vH vD vD_now vH_next)) (kRunS (As := [.int r30]) (rest := [.ref aN]) ⟨hx, hb, hml, hown, ht0⟩ (kX8_placeOfCell l D cy _ r30 r33 hc33 _ rfl) (va_cwS 1 ht0 (gS wd558 wd559 wd57 wd560) rfl rfl rfl (by decide +kernel) ⟨Nat.le_of_ble_eq_true rfl, Nat.le_of_ble_eq_true rfl⟩) hK hN hP hD [] rfl (by decide) rfl hl.1 rfl (Nat.le_of_ble_eq_true rfl) dX8_ahead_33 ⟨Nat.zero_le _, Nat.zero_le _⟩) hP hD hS hA [] [0, 1, 2, 3, 4] rfl rfl (by decide) (by decide) [0, 1, 2, 3, 4] (by decide) rfl rfl (fun H locs hP hD hS => ?_)
    obtain ⟨⟨r36, vN_36⟩, hc36, hok⟩ := k_bind hok
    try dsimp only at hok
    refine kCi (wc := (wX8_answer cy aN qN aH vN)) (wc2 := (wX8_answer cy aN qN aH vN_36)) (wr := [(aH, oX4 vH qH), (qN 1, oX1 vD qD), (qD 0, rI cy 9 vD_now), (qH 10, rI cy 36 vH_next)]) (ws2 := (wX8_ahead cy aN qN aH qH qD vN_36 vH vD vD_now vH_next)) (kRunV (As := [.int r33]) (rest := []) ⟨hx, hb, hml, hown, ht0⟩ (kX8_answer l D cy _ aN qN aH vN r33 r36 vN_36 hc36 _ rfl) (cwV 1 ht0 (gV wd538 wd539 wd540 wd57 wd541) rfl rfl rfl (by decide +kernel) ⟨Nat.le_of_ble_eq_true rfl, Nat.le_of_ble_eq_true rfl⟩) hK hN hP hD [0] rfl (by decide) 0 7 rfl rfl rfl hl.1 rfl (Nat.le_of_ble_eq_true rfl) dX8_ahead_36 ⟨Nat.zero_le _, Nat.zero_le _⟩) hP hD hS hA [0] [1, 2, 3, 4] rfl rfl (by decide) (by decide) [4, 0, 1, 2, 3] (by decide) rfl rfl (fun H locs hP hD hS => ?_)
    cases hok
    exact W.iret hx hb hr (fun t ht hW => ⟨⟨_, (), rfl, rfl, by rw [ht]; exact hP, va_K.moved hW.alike hK, hD⟩, hS.F ht⟩) hS.2.2 dX8_ahead_39
  · have hok := k_pos c8 hok
    refine lv_aload_n hx hb dX8_ahead_11 rfl (lv_at hl 0 rfl) ?_
    refine lv_iconst (v := 1) hx hb dX8_ahead_12 (by decide) ?_
    obtain ⟨⟨r13, vN_13⟩, hc13, hok⟩ := k_bind hok
    try dsimp only at hok
    refine kCi (wc := (wX8_refuse cy aN qN aH vN)) (wc2 := (wX8_refuse cy aN qN aH vN_13)) (wr := [(aH, oX4 vH qH), (qN 1, oX1 vD qD), (qD 0, rI cy 9 vD_now), (qH 10, rI cy 36 vH_next)]) (ws2 := (wX8_ahead cy aN qN aH qH qD vN_13 vH vD vD_now vH_next)) (kRunV (As := [.int 1]) (rest := []) ⟨hx, hb, hml, hown, ht0⟩ (kX8_refuse l D cy _ aN qN aH vN (1 : Int32) r13 vN_13 hc13 _ rfl) (cwV 1 ht0 (gV wd504 wd505 wd506 wd57 wd507) rfl rfl rfl (by decide +kernel) ⟨Nat.le_of_ble_eq_true rfl, Nat.le_of_ble_eq_true rfl⟩) hK hN hP hD [0] rfl (by decide) 0 7 rfl rfl rfl hl.1 rfl (Nat.le_of_ble_eq_true rfl) dX8_ahead_13 ⟨Nat.zero_le _, Nat.zero_le _⟩) hP hD hS hA [0] [1, 2, 3, 4] rfl rfl (by decide) (by decide) [4, 0, 1, 2, 3] (by decide) rfl rfl (fun H locs hP hD hS => ?_)
    cases hok
    exact W.iret hx hb hr (fun t ht hW => ⟨⟨_, (), rfl, rfl, by rw [ht]; exact hP, va_K.moved hW.alike hK, hD⟩, hS.F ht⟩) hS.2.2 dX8_ahead_16
def wsX8_goes : List Cond := .code yX8_goes cX8_goes 1 (some .int) :: W0
abbrev wX8_goes (cy : Nat → ClassId) (aN : Nat) (qN : Nat → Nat) (aH : Nat) (qH : Nat → Nat) (qW : Nat → Nat) (aH0 : Nat) (qD : Nat → Nat) (vN : Nat → Int32) (vH : Nat → Int32) (vW : Nat → Int32) (vD : Nat → Int32) (vD_now : Nat → Int32) (vW_who : Nat → Int32) (vH_kinds : Nat → Int32) (vW_cells : Nat → Int32) (vH_sorts : Nat → Int32) (vH_next : Nat → Int32) (vW_inFront : Nat → Int32) (vH_sizes : Nat → Int32) (vH_width : Nat → Int32) : va_W := [(aN, oX8 vN qN aH), (aH, oX4 vH qH), (qN 2, oX6 vW qW aH0), (qN 1, oX1 vD qD), (qD 0, rI cy 9 vD_now), (qW 1, rI cy 36 vW_who), (qH 14, rI cy 7 vH_kinds), (qW 0, rI cy 7 vW_cells), (qH 8, rI cy 4 vH_sorts), (qH 10, rI cy 36 vH_next), (qW 2, rI cy 7 vW_inFront), (qH 15, rI cy 7 vH_sizes), (qH 11, rI cy 36 vH_width)]
set_option maxHeartbeats 4000000 in
set_option maxRecDepth 100000 in
theorem kX8_goes (l : Launch) (D : va_G) (cy : Nat → ClassId) (sz : Nat) (aN : Nat) (qN : Nat → Nat) (aH : Nat) (qH : Nat → Nat) (qW : Nat → Nat) (aH0 : Nat) (qD : Nat → Nat) (vN : Nat → Int32) (vH : Nat → Int32) (vW : Nat → Int32) (vD : Nat → Int32) (vD_now : Nat → Int32) (vW_who : Nat → Int32) (vH_kinds : Nat → Int32) (vW_cells : Nat → Int32) (vH_sorts : Nat → Int32) (vH_next : Nat → Int32) (vW_inFront : Nat → Int32) (vH_sizes : Nat → Int32) (vH_width : Nat → Int32) (zr : Int32) (z_vN : Nat → Int32) (z_vW : Nat → Int32) (z_vW_who : Nat → Int32) (z_vW_cells : Nat → Int32) (z_vW_inFront : Nat → Int32) (z_aH0 : Nat) (hok : fX8_goes aH aH0 vN vH vW vD vD_now vW_who vH_kinds vW_cells vH_sorts vH_next vW_inFront vH_sizes vH_width = some (zr, z_vN, z_vW, z_vW_who, z_vW_cells, z_vW_inFront, z_aH0)) (A : Nat → Prop) (hAe : va_A (wX8_goes cy aN qN aH qH qW aH0 qD vN vH vW vD vD_now vW_who vH_kinds vW_cells vH_sorts vH_next vW_inFront vH_sizes vH_width) sz = A) : Met l yX8_goes wsX8_goes ({ frames := 3, cells := 0, slots := 0, locals := 68 } : Room) (kPre D cy [.ref aN] (wX8_goes cy aN qN aH qH qW aH0 qD vN vH vW vD vD_now vW_who vH_kinds vW_cells vH_sorts vH_next vW_inFront vH_sizes vH_width) sz) (kQi D cy zr A (wX8_goes cy aN qN aH qH qW z_aH0 qD z_vN vH z_vW vD vD_now z_vW_who vH_kinds z_vW_cells vH_sorts vH_next z_vW_inFront vH_sizes vH_width)) 0 0 A := by
  refine Met.ofW (cc := cX8_goes) (maxL := 1) (ret := (some .int)) (by decide) rfl ?_
  intro p e s m args below meth c s₁ B hml hv
  obtain ⟨rfl, hsz, hP, hK, hD0, hN⟩ := hv
  have hx := B.exec
  have hb := B.bytes
  have hr := B.returns
  have ht0 : ∀ w ∈ W0, w.before _ s = true := fun w h => atoms_spec (ws := wsX8_goes) B.pre w (List.mem_cons_of_mem _ h)
  have hown : s.vm.findClass RX8 = some m.cls := findClass_of_methodNamed B.named
  have hlocks := B.notSynchronized
  subst hsz
  have hD : va_D A (wX8_goes cy aN qN aH qH qW aH0 qD vN vH vW vD vD_now vW_who vH_kinds vW_cells vH_sorts vH_next vW_inFront vH_sizes vH_width) := by rw [← hAe]; exact hD0.self
  have hA : ∀ q : Nat, s.heap.size ≤ q → A q := fun q h => by rw [← hAe]; exact Or.inr h
  have hS : va_S A s.heap s.heap [] := va_S.rf
  have hl := lv_entry ([.ref aN]) (n := 1) (Nat.le_of_ble_eq_true rfl)
  rw [lg_entry_eq]
  generalize (lg_sl ([.ref aN]) ++ List.replicate (1 - (lg_sl ([.ref aN])).length) Slot.unset).toArray = ls at hl ⊢
  have hl : lv_has ls 1 [(0, .ref aN)] := hl
  unfold fX8_goes at hok
  obtain ⟨H, hH⟩ : ∃ H, H = s.heap := ⟨_, rfl⟩
  obtain ⟨locs, hlc⟩ : ∃ x : List Loc, x = [] := ⟨_, rfl⟩
  have hP : va_P D vwCl (wX8_goes cy aN qN aH qH qW aH0 qD vN vH vW vD vD_now vW_who vH_kinds vW_cells vH_sorts vH_next vW_inFront vH_sizes vH_width) H := by rw [hH]; exact hP
  have hS : va_S A s.heap H locs := by rw [hH, hlc]; exact hS
  rw [show W p l e _ s m _ below meth c s.heap [] = W p l e _ s m _ below meth c H locs from by rw [hH, hlc]]
  refine lv_aload_n hx hb dX8_goes_0 rfl (lv_at hl 0 rfl) ?_
  refine va_get (D := D) (ci := 7) (v := .ref aH) (C := RX8) (T := TX8) (N := 9) hx hb ht0 niX8 hown hK hP 0 rfl rfl 5 (by decide) (ht0 _ wd522) (fun _ h9 => h9) rfl dX8_goes_1 ?_
  obtain ⟨r4, hc4, hok⟩ := k_bind hok
  refine kCi (wc := (wX4_stands cy aH qH vH)) (wc2 := (wX4_stands cy aH qH vH)) (wr := [(aN, oX8 vN qN aH), (qN 2, oX6 vW qW aH0), (qN 1, oX1 vD qD), (qD 0, rI cy 9 vD_now), (qW 1, rI cy 36 vW_who), (qH 14, rI cy 7 vH_kinds), (qW 0, rI cy 7 vW_cells), (qH 8, rI cy 4 vH_sorts), (qH 10, rI cy 36 vH_next), (qW 2, rI cy 7 vW_inFront), (qH 15, rI cy 7 vH_sizes), (qH 11, rI cy 36 vH_width)]) (ws2 := (wX8_goes cy aN qN aH qH qW aH0 qD vN vH vW vD vD_now vW_who vH_kinds vW_cells vH_sorts vH_next vW_inFront vH_sizes vH_width)) (kRunV (As := []) (rest := []) ⟨hx, hb, hml, hown, ht0⟩ (kX4_stands l D cy _ aH qH vH r4 hc4 _ rfl) (cwV 0 ht0 (gV wd577 wd462 wd463 wd9 wd464) rfl rfl rfl (by decide +kernel) ⟨Nat.le_of_ble_eq_true rfl, Nat.le_of_ble_eq_true rfl⟩) hK hN hP hD [1] rfl (by decide) 1 3 rfl rfl rfl hl.1 rfl (Nat.le_of_ble_eq_true rfl) dX8_goes_4 ⟨Nat.zero_le _, Nat.zero_le _⟩) hP hD hS hA [1] [0, 2, 3, 4, 5, 6, 7, 8, 9, 10, 11, 12] rfl rfl (by decide) (by decide) [0, 12, 1, 2, 3, 4, 5, 6, 7, 8, 9, 10, 11] (by decide) rfl rfl (fun H locs hP hD hS => ?_)
  refine lv_if_ne (tgt := 16) hx hb dX8_goes_7 (by decide) (fun c7 => ?_) (fun c7 => ?_)
  · have hok := k_neg c7 hok
    refine lv_aload_n hx hb dX8_goes_16 rfl (lv_at hl 0 rfl) ?_
    refine va_get (D := D) (ci := 7) (v := .ref (qN 2)) (C := RX8) (T := TX8) (N := 9) hx hb ht0 niX8 hown hK hP 0 rfl rfl 2 (by decide) (ht0 _ wd578) (fun _ h9 => h9) rfl dX8_goes_17 ?_
    refine lv_aload_n hx hb dX8_goes_20 rfl (lv_at hl 0 rfl) ?_
    refine va_get (D := D) (ci := 7) (v := .ref aH) (C := RX8) (T := TX8) (N := 9) hx hb ht0 niX8 hown hK hP 0 rfl rfl 5 (by decide) (ht0 _ wd522) (fun _ h9 => h9) rfl dX8_goes_21 ?_
    refine lv_aload_n hx hb dX8_goes_24 rfl (lv_at hl 0 rfl) ?_
    refine va_get (D := D) (ci := 7) (v := .ref (qN 1)) (C := RX8) (T := TX8) (N := 9) hx hb ht0 niX8 hown hK hP 0 rfl rfl 1 (by decide) (ht0 _ wd527) (fun _ h9 => h9) rfl dX8_goes_25 ?_
    refine lv_iconst (v := 0) hx hb dX8_goes_28 (by decide) ?_
    obtain ⟨⟨vW_29, vW_who_29, vW_cells_29⟩, hc29, hok⟩ := k_bind hok
    try dsimp only at hok
    refine kCv (wc := (wX6_start cy (qN 2) aH (qN 1) qW aH0 qD qH vW vD vD_now vW_who vH vH_kinds vW_cells vH_sorts)) (wc2 := (wX6_start cy (qN 2) aH (qN 1) qW aH qD qH vW_29 vD vD_now vW_who_29 vH vH_kinds vW_cells_29 vH_sorts)) (wr := [(aN, oX8 vN qN aH), (qH 10, rI cy 36 vH_next), (qW 2, rI cy 7 vW_inFront), (qH 15, rI cy 7 vH_sizes), (qH 11, rI cy 36 vH_width)]) (ws2 := (wX8_goes cy aN qN aH qH qW aH qD vN vH vW_29 vD vD_now vW_who_29 vH_kinds vW_cells_29 vH_sorts vH_next vW_inFront vH_sizes vH_width)) (kRunV (As := [.ref aH, .ref (qN 1), .int 0]) (rest := []) ⟨hx, hb, hml, hown, ht0⟩ (kX6_start l D cy _ (qN 2) aH (qN 1) qW aH0 qD qH vW vD vD_now vW_who vH vH_kinds vW_cells vH_sorts (0 : Int32) vW_29 vW_who_29 vW_cells_29 hc29 _ rfl) (cwV 3 ht0 (gV wd579 wd181 wd182 wd114 wd183) rfl rfl rfl (by decide +kernel) ⟨Nat.le_of_ble_eq_true rfl, Nat.le_of_ble_eq_true rfl⟩) hK hN hP hD [2, 3, 4, 5, 1, 6, 7, 8] rfl (by decide) 2 5 rfl rfl rfl hl.1 rfl (Nat.le_of_ble_eq_true rfl) dX8_goes_29 ⟨Nat.zero_le _, Nat.zero_le _⟩) hP hD hS hA [2, 3, 4, 5, 1, 6, 7, 8] [0, 9, 10, 11, 12] rfl rfl (by decide) (by decide) [0, 9, 5, 6, 7, 8, 10, 11, 12, 1, 2, 3, 4] (by decide) rfl rfl (fun H locs hP hD hS => ?_)
    refine lv_aload_n hx hb dX8_goes_32 rfl (lv_at hl 0 rfl) ?_
    refine va_get (D := D) (ci := 7) (v := .ref (qN 2)) (C := RX8) (T := TX8) (N := 9) hx hb ht0 niX8 hown hK hP 0 rfl rfl 2 (by decide) (ht0 _ wd578) (fun _ h9 => h9) rfl dX8_goes_33 ?_
    refine lv_iconst (v := 0) hx hb dX8_goes_36 (by decide) ?_
    obtain ⟨⟨vW_37, vW_inFront_37⟩, hc37, hok⟩ := k_bind hok
    try dsimp only at hok
    refine kCv (wc := (wX6_decide cy (qN 2) qW aH qH vW_29 vH vW_cells_29 vH_next vW_who_29 vW_inFront vH_sizes vH_width vH_kinds)) (wc2 := (wX6_decide cy (qN 2) qW aH qH vW_37 vH vW_cells_29 vH_next vW_who_29 vW_inFront_37 vH_sizes vH_width vH_kinds)) (wr := [(aN, oX8 vN qN aH), (qN 1, oX1 vD qD), (qD 0, rI cy 9 vD_now), (qH 8, rI cy 4 vH_sorts)]) (ws2 := (wX8_goes cy aN qN aH qH qW aH qD vN vH vW_37 vD vD_now vW_who_29 vH_kinds vW_cells_29 vH_sorts vH_next vW_inFront_37 vH_sizes vH_width)) (kRunV (As := [.int 0]) (rest := []) ⟨hx, hb, hml, hown, ht0⟩ (kX6_decide l D cy _ (qN 2) qW aH qH vW_29 vH vW_cells_29 vH_next vW_who_29 vW_inFront vH_sizes vH_width vH_kinds (0 : Int32) vW_37 vW_inFront_37 hc37 _ rfl) (cwV 1 ht0 (gV wd580 wd151 wd152 wd114 wd153) rfl rfl rfl (by decide +kernel) ⟨Nat.le_of_ble_eq_true rfl, Nat.le_of_ble_eq_true rfl⟩) hK hN hP hD [2, 1, 7, 9, 5, 10, 11, 12, 6] rfl (by decide) 2 5 rfl rfl rfl hl.1 rfl (Nat.le_of_ble_eq_true rfl) dX8_goes_37 ⟨Nat.zero_le _, Nat.zero_le _⟩) hP hD hS hA [2, 1, 7, 9, 5, 10, 11, 12, 6] [0, 3, 4, 8] rfl rfl (by decide) (by decide) [0, 5, 4, 1, 2, 8, 12, 6, 3, 7, 9, 10, 11] (by decide) rfl rfl (fun H locs hP hD hS => ?_)
    refine lv_aload_n hx hb dX8_goes_40 rfl (lv_at hl 0 rfl) ?_
    refine lv_aload_n hx hb dX8_goes_41 rfl (lv_at hl 0 rfl) ?_
    refine va_get (D := D) (ci := 7) (v := .ref (qN 2)) (C := RX8) (T := TX8) (N := 9) hx hb ht0 niX8 hown hK hP 0 rfl rfl 2 (by decide) (ht0 _ wd578) (fun _ h9 => h9) rfl dX8_goes_42 ?_
    obtain ⟨r45, hc45, hok⟩ := k_bind hok
    refine kCi (wc := (wX6_went cy (qN 2) qW aH vW_37)) (wc2 := (wX6_went cy (qN 2) qW aH vW_37)) (wr := [(aN, oX8 vN qN aH), (aH, oX4 vH qH), (qN 1, oX1 vD qD), (qD 0, rI cy 9 vD_now), (qW 1, rI cy 36 vW_who_29), (qH 14, rI cy 7 vH_kinds), (qW 0, rI cy 7 vW_cells_29), (qH 8, rI cy 4 vH_sorts), (qH 10, rI cy 36 vH_next), (qW 2, rI cy 7 vW_inFront_37), (qH 15, rI cy 7 vH_sizes), (qH 11, rI cy 36 vH_width)]) (ws2 := (wX8_goes cy aN qN aH qH qW aH qD vN vH vW_37 vD vD_now vW_who_29 vH_kinds vW_cells_29 vH_sorts vH_next vW_inFront_37 vH_sizes vH_width)) (kRunV (As := []) (rest := [.ref aN]) ⟨hx, hb, hml, hown, ht0⟩ (kX6_went l D cy _ (qN 2) qW aH vW_37 r45 hc45 _ rfl) (cwV 0 ht0 (gV wd581 wd582 wd583 wd114 wd584) rfl rfl rfl (by decide +kernel) ⟨Nat.le_of_ble_eq_true rfl, Nat.le_of_ble_eq_true rfl⟩) hK hN hP hD [2] rfl (by decide) 2 5 rfl rfl rfl hl.1 rfl (Nat.le_of_ble_eq_true rfl) dX8_goes_45 ⟨Nat.zero_le _, Nat.zero_le _⟩) hP hD hS hA [2] [0, 1, 3, 4, 5, 6, 7, 8, 9, 10, 11, 12] rfl rfl (by decide) (by decide) [0, 1, 12, 2, 3, 4, 5, 6, 7, 8, 9, 10, 11] (by decide) rfl rfl (fun H locs hP hD hS => ?_)
    obtain ⟨⟨r48, vN_48⟩, hc48, hok⟩ := k_bind hok
    try dsimp only at hok
    refine kCi (wc := (wX8_answer cy aN qN aH vN)) (wc2 := (wX8_answer cy aN qN aH vN_48)) (wr := [(aH, oX4 vH qH), (qN 2, oX6 vW_37 qW aH), (qN 1, oX1 vD qD), (qD 0, rI cy 9 vD_now), (qW 1, rI cy 36 vW_who_29), (qH 14, rI cy 7 vH_kinds), (qW 0, rI cy 7 vW_cells_29), (qH 8, rI cy 4 vH_sorts), (qH 10, rI cy 36 vH_next), (qW 2, rI cy 7 vW_inFront_37), (qH 15, rI cy 7 vH_sizes), (qH 11, rI cy 36 vH_width)]) (ws2 := (wX8_goes cy aN qN aH qH qW aH qD vN_48 vH vW_37 vD vD_now vW_who_29 vH_kinds vW_cells_29 vH_sorts vH_next vW_inFront_37 vH_sizes vH_width)) (kRunV (As := [.int r45]) (rest := []) ⟨hx, hb, hml, hown, ht0⟩ (kX8_answer l D cy _ aN qN aH vN r45 r48 vN_48 hc48 _ rfl) (cwV 1 ht0 (gV wd538 wd539 wd540 wd57 wd541) rfl rfl rfl (by decide +kernel) ⟨Nat.le_of_ble_eq_true rfl, Nat.le_of_ble_eq_true rfl⟩) hK hN hP hD [0] rfl (by decide) 0 7 rfl rfl rfl hl.1 rfl (Nat.le_of_ble_eq_true rfl) dX8_goes_48 ⟨Nat.zero_le _, Nat.zero_le _⟩) hP hD hS hA [0] [1, 2, 3, 4, 5, 6, 7, 8, 9, 10, 11, 12] rfl rfl (by decide) (by decide) [12, 0, 1, 2, 3, 4, 5, 6, 7, 8, 9, 10, 11] (by decide) rfl rfl (fun H locs hP hD hS => ?_)
    cases hok
    exact W.iret hx hb hr (fun t ht hW => ⟨⟨_, (), rfl, rfl, by rw [ht]; exact hP, va_K.moved hW.alike hK, hD⟩, hS.F ht⟩) hS.2.2 dX8_goes_51
  · have hok := k_pos c7 hok
    refine lv_aload_n hx hb dX8_goes_10 rfl (lv_at hl 0 rfl) ?_
    refine lv_iconst (v := 1) hx hb dX8_goes_11 (by decide) ?_
    obtain ⟨⟨r12, vN_12⟩, hc12, hok⟩ := k_bind hok
    try dsimp only at hok
    refine kCi (wc := (wX8_refuse cy aN qN aH vN)) (wc2 := (wX8_refuse cy aN qN aH vN_12)) (wr := [(aH, oX4 vH qH), (qN 2, oX6 vW qW aH0), (qN 1, oX1 vD qD), (qD 0, rI cy 9 vD_now), (qW 1, rI cy 36 vW_who), (qH 14, rI cy 7 vH_kinds), (qW 0, rI cy 7 vW_cells), (qH 8, rI cy 4 vH_sorts), (qH 10, rI cy 36 vH_next), (qW 2, rI cy 7 vW_inFront), (qH 15, rI cy 7 vH_sizes), (qH 11, rI cy 36 vH_width)]) (ws2 := (wX8_goes cy aN qN aH qH qW aH0 qD vN_12 vH vW vD vD_now vW_who vH_kinds vW_cells vH_sorts vH_next vW_inFront vH_sizes vH_width)) (kRunV (As := [.int 1]) (rest := []) ⟨hx, hb, hml, hown, ht0⟩ (kX8_refuse l D cy _ aN qN aH vN (1 : Int32) r12 vN_12 hc12 _ rfl) (cwV 1 ht0 (gV wd504 wd505 wd506 wd57 wd507) rfl rfl rfl (by decide +kernel) ⟨Nat.le_of_ble_eq_true rfl, Nat.le_of_ble_eq_true rfl⟩) hK hN hP hD [0] rfl (by decide) 0 7 rfl rfl rfl hl.1 rfl (Nat.le_of_ble_eq_true rfl) dX8_goes_12 ⟨Nat.zero_le _, Nat.zero_le _⟩) hP hD hS hA [0] [1, 2, 3, 4, 5, 6, 7, 8, 9, 10, 11, 12] rfl rfl (by decide) (by decide) [12, 0, 1, 2, 3, 4, 5, 6, 7, 8, 9, 10, 11] (by decide) rfl rfl (fun H locs hP hD hS => ?_)
    cases hok
    exact W.iret hx hb hr (fun t ht hW => ⟨⟨_, (), rfl, rfl, by rw [ht]; exact hP, va_K.moved hW.alike hK, hD⟩, hS.F ht⟩) hS.2.2 dX8_goes_15
def wsX8_blocked : List Cond := .code yX8_blocked cX8_blocked 1 (some .int) :: W0
abbrev wX8_blocked (cy : Nat → ClassId) (aN : Nat) (qN : Nat → Nat) (aH : Nat) (qH : Nat → Nat) (qW : Nat → Nat) (aH0 : Nat) (qD : Nat → Nat) (vN : Nat → Int32) (vH : Nat → Int32) (vW : Nat → Int32) (vD : Nat → Int32) (vD_now : Nat → Int32) (vW_who : Nat → Int32) (vH_kinds : Nat → Int32) (vW_cells : Nat → Int32) (vH_sorts : Nat → Int32) (vH_next : Nat → Int32) (vW_inFront : Nat → Int32) (vH_sizes : Nat → Int32) (vH_width : Nat → Int32) : va_W := [(aN, oX8 vN qN aH), (aH, oX4 vH qH), (qN 2, oX6 vW qW aH0), (qN 1, oX1 vD qD), (qD 0, rI cy 9 vD_now), (qW 1, rI cy 36 vW_who), (qH 14, rI cy 7 vH_kinds), (qW 0, rI cy 7 vW_cells), (qH 8, rI cy 4 vH_sorts), (qH 10, rI cy 36 vH_next), (qW 2, rI cy 7 vW_inFront), (qH 15, rI cy 7 vH_sizes), (qH 11, rI cy 36 vH_width)]
set_option maxHeartbeats 4000000 in
set_option maxRecDepth 100000 in
theorem kX8_blocked (l : Launch) (D : va_G) (cy : Nat → ClassId) (sz : Nat) (aN : Nat) (qN : Nat → Nat) (aH : Nat) (qH : Nat → Nat) (qW : Nat → Nat) (aH0 : Nat) (qD : Nat → Nat) (vN : Nat → Int32) (vH : Nat → Int32) (vW : Nat → Int32) (vD : Nat → Int32) (vD_now : Nat → Int32) (vW_who : Nat → Int32) (vH_kinds : Nat → Int32) (vW_cells : Nat → Int32) (vH_sorts : Nat → Int32) (vH_next : Nat → Int32) (vW_inFront : Nat → Int32) (vH_sizes : Nat → Int32) (vH_width : Nat → Int32) (zr : Int32) (z_vN : Nat → Int32) (z_vW : Nat → Int32) (z_vW_who : Nat → Int32) (z_vW_cells : Nat → Int32) (z_vW_inFront : Nat → Int32) (z_aH0 : Nat) (hok : fX8_blocked aH aH0 vN vH vW vD vD_now vW_who vH_kinds vW_cells vH_sorts vH_next vW_inFront vH_sizes vH_width = some (zr, z_vN, z_vW, z_vW_who, z_vW_cells, z_vW_inFront, z_aH0)) (A : Nat → Prop) (hAe : va_A (wX8_blocked cy aN qN aH qH qW aH0 qD vN vH vW vD vD_now vW_who vH_kinds vW_cells vH_sorts vH_next vW_inFront vH_sizes vH_width) sz = A) : Met l yX8_blocked wsX8_blocked ({ frames := 3, cells := 0, slots := 0, locals := 68 } : Room) (kPre D cy [.ref aN] (wX8_blocked cy aN qN aH qH qW aH0 qD vN vH vW vD vD_now vW_who vH_kinds vW_cells vH_sorts vH_next vW_inFront vH_sizes vH_width) sz) (kQi D cy zr A (wX8_blocked cy aN qN aH qH qW z_aH0 qD z_vN vH z_vW vD vD_now z_vW_who vH_kinds z_vW_cells vH_sorts vH_next z_vW_inFront vH_sizes vH_width)) 0 0 A := by
  refine Met.ofW (cc := cX8_blocked) (maxL := 1) (ret := (some .int)) (by decide) rfl ?_
  intro p e s m args below meth c s₁ B hml hv
  obtain ⟨rfl, hsz, hP, hK, hD0, hN⟩ := hv
  have hx := B.exec
  have hb := B.bytes
  have hr := B.returns
  have ht0 : ∀ w ∈ W0, w.before _ s = true := fun w h => atoms_spec (ws := wsX8_blocked) B.pre w (List.mem_cons_of_mem _ h)
  have hown : s.vm.findClass RX8 = some m.cls := findClass_of_methodNamed B.named
  have hlocks := B.notSynchronized
  subst hsz
  have hD : va_D A (wX8_blocked cy aN qN aH qH qW aH0 qD vN vH vW vD vD_now vW_who vH_kinds vW_cells vH_sorts vH_next vW_inFront vH_sizes vH_width) := by rw [← hAe]; exact hD0.self
  have hA : ∀ q : Nat, s.heap.size ≤ q → A q := fun q h => by rw [← hAe]; exact Or.inr h
  have hS : va_S A s.heap s.heap [] := va_S.rf
  have hl := lv_entry ([.ref aN]) (n := 1) (Nat.le_of_ble_eq_true rfl)
  rw [lg_entry_eq]
  generalize (lg_sl ([.ref aN]) ++ List.replicate (1 - (lg_sl ([.ref aN])).length) Slot.unset).toArray = ls at hl ⊢
  have hl : lv_has ls 1 [(0, .ref aN)] := hl
  unfold fX8_blocked at hok
  obtain ⟨H, hH⟩ : ∃ H, H = s.heap := ⟨_, rfl⟩
  obtain ⟨locs, hlc⟩ : ∃ x : List Loc, x = [] := ⟨_, rfl⟩
  have hP : va_P D vwCl (wX8_blocked cy aN qN aH qH qW aH0 qD vN vH vW vD vD_now vW_who vH_kinds vW_cells vH_sorts vH_next vW_inFront vH_sizes vH_width) H := by rw [hH]; exact hP
  have hS : va_S A s.heap H locs := by rw [hH, hlc]; exact hS
  rw [show W p l e _ s m _ below meth c s.heap [] = W p l e _ s m _ below meth c H locs from by rw [hH, hlc]]
  refine lv_aload_n hx hb dX8_blocked_0 rfl (lv_at hl 0 rfl) ?_
  refine va_get (D := D) (ci := 7) (v := .ref aH) (C := RX8) (T := TX8) (N := 9) hx hb ht0 niX8 hown hK hP 0 rfl rfl 5 (by decide) (ht0 _ wd522) (fun _ h9 => h9) rfl dX8_blocked_1 ?_
  obtain ⟨r4, hc4, hok⟩ := k_bind hok
  refine kCi (wc := (wX4_stands cy aH qH vH)) (wc2 := (wX4_stands cy aH qH vH)) (wr := [(aN, oX8 vN qN aH), (qN 2, oX6 vW qW aH0), (qN 1, oX1 vD qD), (qD 0, rI cy 9 vD_now), (qW 1, rI cy 36 vW_who), (qH 14, rI cy 7 vH_kinds), (qW 0, rI cy 7 vW_cells), (qH 8, rI cy 4 vH_sorts), (qH 10, rI cy 36 vH_next), (qW 2, rI cy 7 vW_inFront), (qH 15, rI cy 7 vH_sizes), (qH 11, rI cy 36 vH_width)]) (ws2 := (wX8_blocked cy aN qN aH qH qW aH0 qD vN vH vW vD vD_now vW_who vH_kinds vW_cells vH_sorts vH_next vW_inFront vH_sizes vH_width)) (kRunV (As := []) (rest := []) ⟨hx, hb, hml, hown, ht0⟩ (kX4_stands l D cy _ aH qH vH r4 hc4 _ rfl) (cwV 0 ht0 (gV wd577 wd462 wd463 wd9 wd464) rfl rfl rfl (by decide +kernel) ⟨Nat.le_of_ble_eq_true rfl, Nat.le_of_ble_eq_true rfl⟩) hK hN hP hD [1] rfl (by decide) 1 3 rfl rfl rfl hl.1 rfl (Nat.le_of_ble_eq_true rfl) dX8_blocked_4 ⟨Nat.zero_le _, Nat.zero_le _⟩) hP hD hS hA [1] [0, 2, 3, 4, 5, 6, 7, 8, 9, 10, 11, 12] rfl rfl (by decide) (by decide) [0, 12, 1, 2, 3, 4, 5, 6, 7, 8, 9, 10, 11] (by decide) rfl rfl (fun H locs hP hD hS => ?_)
  refine lv_if_ne (tgt := 16) hx hb dX8_blocked_7 (by decide) (fun c7 => ?_) (fun c7 => ?_)
  · have hok := k_neg c7 hok
    refine lv_aload_n hx hb dX8_blocked_16 rfl (lv_at hl 0 rfl) ?_
    refine va_get (D := D) (ci := 7) (v := .ref (qN 2)) (C := RX8) (T := TX8) (N := 9) hx hb ht0 niX8 hown hK hP 0 rfl rfl 2 (by decide) (ht0 _ wd578) (fun _ h9 => h9) rfl dX8_blocked_17 ?_
    refine lv_aload_n hx hb dX8_blocked_20 rfl (lv_at hl 0 rfl) ?_
    refine va_get (D := D) (ci := 7) (v := .ref aH) (C := RX8) (T := TX8) (N := 9) hx hb ht0 niX8 hown hK hP 0 rfl rfl 5 (by decide) (ht0 _ wd522) (fun _ h9 => h9) rfl dX8_blocked_21 ?_
    refine lv_aload_n hx hb dX8_blocked_24 rfl (lv_at hl 0 rfl) ?_
    refine va_get (D := D) (ci := 7) (v := .ref (qN 1)) (C := RX8) (T := TX8) (N := 9) hx hb ht0 niX8 hown hK hP 0 rfl rfl 1 (by decide) (ht0 _ wd527) (fun _ h9 => h9) rfl dX8_blocked_25 ?_
    refine lv_iconst (v := 0) hx hb dX8_blocked_28 (by decide) ?_
    obtain ⟨⟨vW_29, vW_who_29, vW_cells_29⟩, hc29, hok⟩ := k_bind hok
    try dsimp only at hok
    refine kCv (wc := (wX6_start cy (qN 2) aH (qN 1) qW aH0 qD qH vW vD vD_now vW_who vH vH_kinds vW_cells vH_sorts)) (wc2 := (wX6_start cy (qN 2) aH (qN 1) qW aH qD qH vW_29 vD vD_now vW_who_29 vH vH_kinds vW_cells_29 vH_sorts)) (wr := [(aN, oX8 vN qN aH), (qH 10, rI cy 36 vH_next), (qW 2, rI cy 7 vW_inFront), (qH 15, rI cy 7 vH_sizes), (qH 11, rI cy 36 vH_width)]) (ws2 := (wX8_blocked cy aN qN aH qH qW aH qD vN vH vW_29 vD vD_now vW_who_29 vH_kinds vW_cells_29 vH_sorts vH_next vW_inFront vH_sizes vH_width)) (kRunV (As := [.ref aH, .ref (qN 1), .int 0]) (rest := []) ⟨hx, hb, hml, hown, ht0⟩ (kX6_start l D cy _ (qN 2) aH (qN 1) qW aH0 qD qH vW vD vD_now vW_who vH vH_kinds vW_cells vH_sorts (0 : Int32) vW_29 vW_who_29 vW_cells_29 hc29 _ rfl) (cwV 3 ht0 (gV wd579 wd181 wd182 wd114 wd183) rfl rfl rfl (by decide +kernel) ⟨Nat.le_of_ble_eq_true rfl, Nat.le_of_ble_eq_true rfl⟩) hK hN hP hD [2, 3, 4, 5, 1, 6, 7, 8] rfl (by decide) 2 5 rfl rfl rfl hl.1 rfl (Nat.le_of_ble_eq_true rfl) dX8_blocked_29 ⟨Nat.zero_le _, Nat.zero_le _⟩) hP hD hS hA [2, 3, 4, 5, 1, 6, 7, 8] [0, 9, 10, 11, 12] rfl rfl (by decide) (by decide) [0, 9, 5, 6, 7, 8, 10, 11, 12, 1, 2, 3, 4] (by decide) rfl rfl (fun H locs hP hD hS => ?_)
    refine lv_aload_n hx hb dX8_blocked_32 rfl (lv_at hl 0 rfl) ?_
    refine va_get (D := D) (ci := 7) (v := .ref (qN 2)) (C := RX8) (T := TX8) (N := 9) hx hb ht0 niX8 hown hK hP 0 rfl rfl 2 (by decide) (ht0 _ wd578) (fun _ h9 => h9) rfl dX8_blocked_33 ?_
    refine lv_iconst (v := 0) hx hb dX8_blocked_36 (by decide) ?_
    obtain ⟨⟨vW_37, vW_inFront_37⟩, hc37, hok⟩ := k_bind hok
    try dsimp only at hok
    refine kCv (wc := (wX6_decide cy (qN 2) qW aH qH vW_29 vH vW_cells_29 vH_next vW_who_29 vW_inFront vH_sizes vH_width vH_kinds)) (wc2 := (wX6_decide cy (qN 2) qW aH qH vW_37 vH vW_cells_29 vH_next vW_who_29 vW_inFront_37 vH_sizes vH_width vH_kinds)) (wr := [(aN, oX8 vN qN aH), (qN 1, oX1 vD qD), (qD 0, rI cy 9 vD_now), (qH 8, rI cy 4 vH_sorts)]) (ws2 := (wX8_blocked cy aN qN aH qH qW aH qD vN vH vW_37 vD vD_now vW_who_29 vH_kinds vW_cells_29 vH_sorts vH_next vW_inFront_37 vH_sizes vH_width)) (kRunV (As := [.int 0]) (rest := []) ⟨hx, hb, hml, hown, ht0⟩ (kX6_decide l D cy _ (qN 2) qW aH qH vW_29 vH vW_cells_29 vH_next vW_who_29 vW_inFront vH_sizes vH_width vH_kinds (0 : Int32) vW_37 vW_inFront_37 hc37 _ rfl) (cwV 1 ht0 (gV wd580 wd151 wd152 wd114 wd153) rfl rfl rfl (by decide +kernel) ⟨Nat.le_of_ble_eq_true rfl, Nat.le_of_ble_eq_true rfl⟩) hK hN hP hD [2, 1, 7, 9, 5, 10, 11, 12, 6] rfl (by decide) 2 5 rfl rfl rfl hl.1 rfl (Nat.le_of_ble_eq_true rfl) dX8_blocked_37 ⟨Nat.zero_le _, Nat.zero_le _⟩) hP hD hS hA [2, 1, 7, 9, 5, 10, 11, 12, 6] [0, 3, 4, 8] rfl rfl (by decide) (by decide) [0, 5, 4, 1, 2, 8, 12, 6, 3, 7, 9, 10, 11] (by decide) rfl rfl (fun H locs hP hD hS => ?_)
    refine lv_aload_n hx hb dX8_blocked_40 rfl (lv_at hl 0 rfl) ?_
    refine lv_aload_n hx hb dX8_blocked_41 rfl (lv_at hl 0 rfl) ?_
    refine va_get (D := D) (ci := 7) (v := .ref (qN 2)) (C := RX8) (T := TX8) (N := 9) hx hb ht0 niX8 hown hK hP 0 rfl rfl 2 (by decide) (ht0 _ wd578) (fun _ h9 => h9) rfl dX8_blocked_42 ?_
    obtain ⟨r45, hc45, hok⟩ := k_bind hok
    refine kCi (wc := (wX6_stuck cy (qN 2) qW aH qH vW_37 vH)) (wc2 := (wX6_stuck cy (qN 2) qW aH qH vW_37 vH)) (wr := [(aN, oX8 vN qN aH), (qN 1, oX1 vD qD), (qD 0, rI cy 9 vD_now), (qW 1, rI cy 36 vW_who_29), (qH 14, rI cy 7 vH_kinds), (qW 0, rI cy 7 vW_cells_29), (qH 8, rI cy 4 vH_sorts), (qH 10, rI cy 36 vH_next), (qW 2, rI cy 7 vW_inFront_37), (qH 15, rI cy 7 vH_sizes), (qH 11, rI cy 36 vH_width)]) (ws2 := (wX8_blocked cy aN qN aH qH qW aH qD vN vH vW_37 vD vD_now vW_who_29 vH_kinds vW_cells_29 vH_sorts vH_next vW_inFront_37 vH_sizes vH_width)) (kRunV (As := []) (rest := [.ref aN]) ⟨hx, hb, hml, hown, ht0⟩ (kX6_stuck l D cy _ (qN 2) qW aH qH vW_37 vH r45 hc45 _ rfl) (cwV 0 ht0 (gV wd585 wd586 wd587 wd114 wd588) rfl rfl rfl (by decide +kernel) ⟨Nat.le_of_ble_eq_true rfl, Nat.le_of_ble_eq_true rfl⟩) hK hN hP hD [2, 1] rfl (by decide) 2 5 rfl rfl rfl hl.1 rfl (Nat.le_of_ble_eq_true rfl) dX8_blocked_45 ⟨Nat.zero_le _, Nat.zero_le _⟩) hP hD hS hA [2, 1] [0, 3, 4, 5, 6, 7, 8, 9, 10, 11, 12] rfl rfl (by decide) (by decide) [0, 12, 11, 1, 2, 3, 4, 5, 6, 7, 8, 9, 10] (by decide) rfl rfl (fun H locs hP hD hS => ?_)
    obtain ⟨⟨r48, vN_48⟩, hc48, hok⟩ := k_bind hok
    try dsimp only at hok
    refine kCi (wc := (wX8_answer cy aN qN aH vN)) (wc2 := (wX8_answer cy aN qN aH vN_48)) (wr := [(aH, oX4 vH qH), (qN 2, oX6 vW_37 qW aH), (qN 1, oX1 vD qD), (qD 0, rI cy 9 vD_now), (qW 1, rI cy 36 vW_who_29), (qH 14, rI cy 7 vH_kinds), (qW 0, rI cy 7 vW_cells_29), (qH 8, rI cy 4 vH_sorts), (qH 10, rI cy 36 vH_next), (qW 2, rI cy 7 vW_inFront_37), (qH 15, rI cy 7 vH_sizes), (qH 11, rI cy 36 vH_width)]) (ws2 := (wX8_blocked cy aN qN aH qH qW aH qD vN_48 vH vW_37 vD vD_now vW_who_29 vH_kinds vW_cells_29 vH_sorts vH_next vW_inFront_37 vH_sizes vH_width)) (kRunV (As := [.int r45]) (rest := []) ⟨hx, hb, hml, hown, ht0⟩ (kX8_answer l D cy _ aN qN aH vN r45 r48 vN_48 hc48 _ rfl) (cwV 1 ht0 (gV wd538 wd539 wd540 wd57 wd541) rfl rfl rfl (by decide +kernel) ⟨Nat.le_of_ble_eq_true rfl, Nat.le_of_ble_eq_true rfl⟩) hK hN hP hD [0] rfl (by decide) 0 7 rfl rfl rfl hl.1 rfl (Nat.le_of_ble_eq_true rfl) dX8_blocked_48 ⟨Nat.zero_le _, Nat.zero_le _⟩) hP hD hS hA [0] [1, 2, 3, 4, 5, 6, 7, 8, 9, 10, 11, 12] rfl rfl (by decide) (by decide) [12, 0, 1, 2, 3, 4, 5, 6, 7, 8, 9, 10, 11] (by decide) rfl rfl (fun H locs hP hD hS => ?_)
    cases hok
    exact W.iret hx hb hr (fun t ht hW => ⟨⟨_, (), rfl, rfl, by rw [ht]; exact hP, va_K.moved hW.alike hK, hD⟩, hS.F ht⟩) hS.2.2 dX8_blocked_51
  · have hok := k_pos c7 hok
    refine lv_aload_n hx hb dX8_blocked_10 rfl (lv_at hl 0 rfl) ?_
    refine lv_iconst (v := 1) hx hb dX8_blocked_11 (by decide) ?_
    obtain ⟨⟨r12, vN_12⟩, hc12, hok⟩ := k_bind hok
    try dsimp only at hok
    refine kCi (wc := (wX8_refuse cy aN qN aH vN)) (wc2 := (wX8_refuse cy aN qN aH vN_12)) (wr := [(aH, oX4 vH qH), (qN 2, oX6 vW qW aH0), (qN 1, oX1 vD qD), (qD 0, rI cy 9 vD_now), (qW 1, rI cy 36 vW_who), (qH 14, rI cy 7 vH_kinds), (qW 0, rI cy 7 vW_cells), (qH 8, rI cy 4 vH_sorts), (qH 10, rI cy 36 vH_next), (qW 2, rI cy 7 vW_inFront), (qH 15, rI cy 7 vH_sizes), (qH 11, rI cy 36 vH_width)]) (ws2 := (wX8_blocked cy aN qN aH qH qW aH0 qD vN_12 vH vW vD vD_now vW_who vH_kinds vW_cells vH_sorts vH_next vW_inFront vH_sizes vH_width)) (kRunV (As := [.int 1]) (rest := []) ⟨hx, hb, hml, hown, ht0⟩ (kX8_refuse l D cy _ aN qN aH vN (1 : Int32) r12 vN_12 hc12 _ rfl) (cwV 1 ht0 (gV wd504 wd505 wd506 wd57 wd507) rfl rfl rfl (by decide +kernel) ⟨Nat.le_of_ble_eq_true rfl, Nat.le_of_ble_eq_true rfl⟩) hK hN hP hD [0] rfl (by decide) 0 7 rfl rfl rfl hl.1 rfl (Nat.le_of_ble_eq_true rfl) dX8_blocked_12 ⟨Nat.zero_le _, Nat.zero_le _⟩) hP hD hS hA [0] [1, 2, 3, 4, 5, 6, 7, 8, 9, 10, 11, 12] rfl rfl (by decide) (by decide) [12, 0, 1, 2, 3, 4, 5, 6, 7, 8, 9, 10, 11] (by decide) rfl rfl (fun H locs hP hD hS => ?_)
    cases hok
    exact W.iret hx hb hr (fun t ht hW => ⟨⟨_, (), rfl, rfl, by rw [ht]; exact hP, va_K.moved hW.alike hK, hD⟩, hS.F ht⟩) hS.2.2 dX8_blocked_15
def wsX8_meeting : List Cond := .code yX8_meeting cX8_meeting 1 (some .int) :: W0
abbrev wX8_meeting (cy : Nat → ClassId) (aN : Nat) (qN : Nat → Nat) (aH : Nat) (qH : Nat → Nat) (qW : Nat → Nat) (aH0 : Nat) (qD : Nat → Nat) (vN : Nat → Int32) (vH : Nat → Int32) (vW : Nat → Int32) (vD : Nat → Int32) (vD_now : Nat → Int32) (vW_who : Nat → Int32) (vH_kinds : Nat → Int32) (vW_cells : Nat → Int32) (vH_sorts : Nat → Int32) (vH_doorOne : Nat → Int32) (vH_doorTwo : Nat → Int32) : va_W := [(aN, oX8 vN qN aH), (aH, oX4 vH qH), (qN 2, oX6 vW qW aH0), (qN 1, oX1 vD qD), (qD 0, rI cy 9 vD_now), (qW 1, rI cy 36 vW_who), (qH 14, rI cy 7 vH_kinds), (qW 0, rI cy 7 vW_cells), (qH 8, rI cy 4 vH_sorts), (qH 12, rI cy 5 vH_doorOne), (qH 13, rI cy 5 vH_doorTwo)]
set_option maxHeartbeats 4000000 in
set_option maxRecDepth 100000 in
theorem kX8_meeting (l : Launch) (D : va_G) (cy : Nat → ClassId) (sz : Nat) (aN : Nat) (qN : Nat → Nat) (aH : Nat) (qH : Nat → Nat) (qW : Nat → Nat) (aH0 : Nat) (qD : Nat → Nat) (vN : Nat → Int32) (vH : Nat → Int32) (vW : Nat → Int32) (vD : Nat → Int32) (vD_now : Nat → Int32) (vW_who : Nat → Int32) (vH_kinds : Nat → Int32) (vW_cells : Nat → Int32) (vH_sorts : Nat → Int32) (vH_doorOne : Nat → Int32) (vH_doorTwo : Nat → Int32) (zr : Int32) (z_vN : Nat → Int32) (z_vW : Nat → Int32) (z_vW_who : Nat → Int32) (z_vW_cells : Nat → Int32) (z_aH0 : Nat) (hok : fX8_meeting aH aH0 vN vH vW vD vD_now vW_who vH_kinds vW_cells vH_sorts vH_doorOne vH_doorTwo = some (zr, z_vN, z_vW, z_vW_who, z_vW_cells, z_aH0)) (A : Nat → Prop) (hAe : va_A (wX8_meeting cy aN qN aH qH qW aH0 qD vN vH vW vD vD_now vW_who vH_kinds vW_cells vH_sorts vH_doorOne vH_doorTwo) sz = A) : Met l yX8_meeting wsX8_meeting ({ frames := 3, cells := 0, slots := 0, locals := 68 } : Room) (kPre D cy [.ref aN] (wX8_meeting cy aN qN aH qH qW aH0 qD vN vH vW vD vD_now vW_who vH_kinds vW_cells vH_sorts vH_doorOne vH_doorTwo) sz) (kQi D cy zr A (wX8_meeting cy aN qN aH qH qW z_aH0 qD z_vN vH z_vW vD vD_now z_vW_who vH_kinds z_vW_cells vH_sorts vH_doorOne vH_doorTwo)) 0 0 A := by
  refine Met.ofW (cc := cX8_meeting) (maxL := 1) (ret := (some .int)) (by decide) rfl ?_
  intro p e s m args below meth c s₁ B hml hv
  obtain ⟨rfl, hsz, hP, hK, hD0, hN⟩ := hv
  have hx := B.exec
  have hb := B.bytes
  have hr := B.returns
  have ht0 : ∀ w ∈ W0, w.before _ s = true := fun w h => atoms_spec (ws := wsX8_meeting) B.pre w (List.mem_cons_of_mem _ h)
  have hown : s.vm.findClass RX8 = some m.cls := findClass_of_methodNamed B.named
  have hlocks := B.notSynchronized
  subst hsz
  have hD : va_D A (wX8_meeting cy aN qN aH qH qW aH0 qD vN vH vW vD vD_now vW_who vH_kinds vW_cells vH_sorts vH_doorOne vH_doorTwo) := by rw [← hAe]; exact hD0.self
  have hA : ∀ q : Nat, s.heap.size ≤ q → A q := fun q h => by rw [← hAe]; exact Or.inr h
  have hS : va_S A s.heap s.heap [] := va_S.rf
  have hl := lv_entry ([.ref aN]) (n := 1) (Nat.le_of_ble_eq_true rfl)
  rw [lg_entry_eq]
  generalize (lg_sl ([.ref aN]) ++ List.replicate (1 - (lg_sl ([.ref aN])).length) Slot.unset).toArray = ls at hl ⊢
  have hl : lv_has ls 1 [(0, .ref aN)] := hl
  unfold fX8_meeting at hok
  obtain ⟨H, hH⟩ : ∃ H, H = s.heap := ⟨_, rfl⟩
  obtain ⟨locs, hlc⟩ : ∃ x : List Loc, x = [] := ⟨_, rfl⟩
  have hP : va_P D vwCl (wX8_meeting cy aN qN aH qH qW aH0 qD vN vH vW vD vD_now vW_who vH_kinds vW_cells vH_sorts vH_doorOne vH_doorTwo) H := by rw [hH]; exact hP
  have hS : va_S A s.heap H locs := by rw [hH, hlc]; exact hS
  rw [show W p l e _ s m _ below meth c s.heap [] = W p l e _ s m _ below meth c H locs from by rw [hH, hlc]]
  refine lv_aload_n hx hb dX8_meeting_0 rfl (lv_at hl 0 rfl) ?_
  refine va_get (D := D) (ci := 7) (v := .ref aH) (C := RX8) (T := TX8) (N := 9) hx hb ht0 niX8 hown hK hP 0 rfl rfl 5 (by decide) (ht0 _ wd522) (fun _ h9 => h9) rfl dX8_meeting_1 ?_
  obtain ⟨r4, hc4, hok⟩ := k_bind hok
  refine kCi (wc := (wX4_stands cy aH qH vH)) (wc2 := (wX4_stands cy aH qH vH)) (wr := [(aN, oX8 vN qN aH), (qN 2, oX6 vW qW aH0), (qN 1, oX1 vD qD), (qD 0, rI cy 9 vD_now), (qW 1, rI cy 36 vW_who), (qH 14, rI cy 7 vH_kinds), (qW 0, rI cy 7 vW_cells), (qH 8, rI cy 4 vH_sorts), (qH 12, rI cy 5 vH_doorOne), (qH 13, rI cy 5 vH_doorTwo)]) (ws2 := (wX8_meeting cy aN qN aH qH qW aH0 qD vN vH vW vD vD_now vW_who vH_kinds vW_cells vH_sorts vH_doorOne vH_doorTwo)) (kRunV (As := []) (rest := []) ⟨hx, hb, hml, hown, ht0⟩ (kX4_stands l D cy _ aH qH vH r4 hc4 _ rfl) (cwV 0 ht0 (gV wd577 wd462 wd463 wd9 wd464) rfl rfl rfl (by decide +kernel) ⟨Nat.le_of_ble_eq_true rfl, Nat.le_of_ble_eq_true rfl⟩) hK hN hP hD [1] rfl (by decide) 1 3 rfl rfl rfl hl.1 rfl (Nat.le_of_ble_eq_true rfl) dX8_meeting_4 ⟨Nat.zero_le _, Nat.zero_le _⟩) hP hD hS hA [1] [0, 2, 3, 4, 5, 6, 7, 8, 9, 10] rfl rfl (by decide) (by decide) [0, 10, 1, 2, 3, 4, 5, 6, 7, 8, 9] (by decide) rfl rfl (fun H locs hP hD hS => ?_)
  refine lv_if_ne (tgt := 16) hx hb dX8_meeting_7 (by decide) (fun c7 => ?_) (fun c7 => ?_)
  · have hok := k_neg c7 hok
    refine lv_aload_n hx hb dX8_meeting_16 rfl (lv_at hl 0 rfl) ?_
    refine va_get (D := D) (ci := 7) (v := .ref (qN 2)) (C := RX8) (T := TX8) (N := 9) hx hb ht0 niX8 hown hK hP 0 rfl rfl 2 (by decide) (ht0 _ wd578) (fun _ h9 => h9) rfl dX8_meeting_17 ?_
    refine lv_aload_n hx hb dX8_meeting_20 rfl (lv_at hl 0 rfl) ?_
    refine va_get (D := D) (ci := 7) (v := .ref aH) (C := RX8) (T := TX8) (N := 9) hx hb ht0 niX8 hown hK hP 0 rfl rfl 5 (by decide) (ht0 _ wd522) (fun _ h9 => h9) rfl dX8_meeting_21 ?_
    refine lv_aload_n hx hb dX8_meeting_24 rfl (lv_at hl 0 rfl) ?_
    refine va_get (D := D) (ci := 7) (v := .ref (qN 1)) (C := RX8) (T := TX8) (N := 9) hx hb ht0 niX8 hown hK hP 0 rfl rfl 1 (by decide) (ht0 _ wd527) (fun _ h9 => h9) rfl dX8_meeting_25 ?_
    refine lv_iconst (v := 0) hx hb dX8_meeting_28 (by decide) ?_
    obtain ⟨⟨vW_29, vW_who_29, vW_cells_29⟩, hc29, hok⟩ := k_bind hok
    try dsimp only at hok
    refine kCv (wc := (wX6_start cy (qN 2) aH (qN 1) qW aH0 qD qH vW vD vD_now vW_who vH vH_kinds vW_cells vH_sorts)) (wc2 := (wX6_start cy (qN 2) aH (qN 1) qW aH qD qH vW_29 vD vD_now vW_who_29 vH vH_kinds vW_cells_29 vH_sorts)) (wr := [(aN, oX8 vN qN aH), (qH 12, rI cy 5 vH_doorOne), (qH 13, rI cy 5 vH_doorTwo)]) (ws2 := (wX8_meeting cy aN qN aH qH qW aH qD vN vH vW_29 vD vD_now vW_who_29 vH_kinds vW_cells_29 vH_sorts vH_doorOne vH_doorTwo)) (kRunV (As := [.ref aH, .ref (qN 1), .int 0]) (rest := []) ⟨hx, hb, hml, hown, ht0⟩ (kX6_start l D cy _ (qN 2) aH (qN 1) qW aH0 qD qH vW vD vD_now vW_who vH vH_kinds vW_cells vH_sorts (0 : Int32) vW_29 vW_who_29 vW_cells_29 hc29 _ rfl) (cwV 3 ht0 (gV wd579 wd181 wd182 wd114 wd183) rfl rfl rfl (by decide +kernel) ⟨Nat.le_of_ble_eq_true rfl, Nat.le_of_ble_eq_true rfl⟩) hK hN hP hD [2, 3, 4, 5, 1, 6, 7, 8] rfl (by decide) 2 5 rfl rfl rfl hl.1 rfl (Nat.le_of_ble_eq_true rfl) dX8_meeting_29 ⟨Nat.zero_le _, Nat.zero_le _⟩) hP hD hS hA [2, 3, 4, 5, 1, 6, 7, 8] [0, 9, 10] rfl rfl (by decide) (by decide) [0, 7, 3, 4, 5, 6, 8, 9, 10, 1, 2] (by decide) rfl rfl (fun H locs hP hD hS => ?_)
    refine lv_aload_n hx hb dX8_meeting_32 rfl (lv_at hl 0 rfl) ?_
    refine lv_aload_n hx hb dX8_meeting_33 rfl (lv_at hl 0 rfl) ?_
    refine va_get (D := D) (ci := 7) (v := .ref (qN 2)) (C := RX8) (T := TX8) (N := 9) hx hb ht0 niX8 hown hK hP 0 rfl rfl 2 (by decide) (ht0 _ wd578) (fun _ h9 => h9) rfl dX8_meeting_34 ?_
    obtain ⟨r37, hc37, hok⟩ := k_bind hok
    refine kCi (wc := (wX6_firstPair cy (qN 2) qW aH qH vW_29 vH vH_doorOne vH_doorTwo vW_who_29)) (wc2 := (wX6_firstPair cy (qN 2) qW aH qH vW_29 vH vH_doorOne vH_doorTwo vW_who_29)) (wr := [(aN, oX8 vN qN aH), (qN 1, oX1 vD qD), (qD 0, rI cy 9 vD_now), (qH 14, rI cy 7 vH_kinds), (qW 0, rI cy 7 vW_cells_29), (qH 8, rI cy 4 vH_sorts)]) (ws2 := (wX8_meeting cy aN qN aH qH qW aH qD vN vH vW_29 vD vD_now vW_who_29 vH_kinds vW_cells_29 vH_sorts vH_doorOne vH_doorTwo)) (kRunV (As := []) (rest := [.ref aN]) ⟨hx, hb, hml, hown, ht0⟩ (kX6_firstPair l D cy _ (qN 2) qW aH qH vW_29 vH vH_doorOne vH_doorTwo vW_who_29 r37 hc37 _ rfl) (cwV 0 ht0 (gV wd589 wd590 wd591 wd114 wd592) rfl rfl rfl (by decide +kernel) ⟨Nat.le_of_ble_eq_true rfl, Nat.le_of_ble_eq_true rfl⟩) hK hN hP hD [2, 1, 9, 10, 5] rfl (by decide) 2 5 rfl rfl rfl hl.1 rfl (Nat.le_of_ble_eq_true rfl) dX8_meeting_37 ⟨Nat.zero_le _, Nat.zero_le _⟩) hP hD hS hA [2, 1, 9, 10, 5] [0, 3, 4, 6, 7, 8] rfl rfl (by decide) (by decide) [0, 7, 6, 1, 2, 10, 3, 4, 5, 8, 9] (by decide) rfl rfl (fun H locs hP hD hS => ?_)
    obtain ⟨⟨r40, vN_40⟩, hc40, hok⟩ := k_bind hok
    try dsimp only at hok
    refine kCi (wc := (wX8_answer cy aN qN aH vN)) (wc2 := (wX8_answer cy aN qN aH vN_40)) (wr := [(aH, oX4 vH qH), (qN 2, oX6 vW_29 qW aH), (qN 1, oX1 vD qD), (qD 0, rI cy 9 vD_now), (qW 1, rI cy 36 vW_who_29), (qH 14, rI cy 7 vH_kinds), (qW 0, rI cy 7 vW_cells_29), (qH 8, rI cy 4 vH_sorts), (qH 12, rI cy 5 vH_doorOne), (qH 13, rI cy 5 vH_doorTwo)]) (ws2 := (wX8_meeting cy aN qN aH qH qW aH qD vN_40 vH vW_29 vD vD_now vW_who_29 vH_kinds vW_cells_29 vH_sorts vH_doorOne vH_doorTwo)) (kRunV (As := [.int r37]) (rest := []) ⟨hx, hb, hml, hown, ht0⟩ (kX8_answer l D cy _ aN qN aH vN r37 r40 vN_40 hc40 _ rfl) (cwV 1 ht0 (gV wd538 wd539 wd540 wd57 wd541) rfl rfl rfl (by decide +kernel) ⟨Nat.le_of_ble_eq_true rfl, Nat.le_of_ble_eq_true rfl⟩) hK hN hP hD [0] rfl (by decide) 0 7 rfl rfl rfl hl.1 rfl (Nat.le_of_ble_eq_true rfl) dX8_meeting_40 ⟨Nat.zero_le _, Nat.zero_le _⟩) hP hD hS hA [0] [1, 2, 3, 4, 5, 6, 7, 8, 9, 10] rfl rfl (by decide) (by decide) [10, 0, 1, 2, 3, 4, 5, 6, 7, 8, 9] (by decide) rfl rfl (fun H locs hP hD hS => ?_)
    cases hok
    exact W.iret hx hb hr (fun t ht hW => ⟨⟨_, (), rfl, rfl, by rw [ht]; exact hP, va_K.moved hW.alike hK, hD⟩, hS.F ht⟩) hS.2.2 dX8_meeting_43
  · have hok := k_pos c7 hok
    refine lv_aload_n hx hb dX8_meeting_10 rfl (lv_at hl 0 rfl) ?_
    refine lv_iconst (v := 1) hx hb dX8_meeting_11 (by decide) ?_
    obtain ⟨⟨r12, vN_12⟩, hc12, hok⟩ := k_bind hok
    try dsimp only at hok
    refine kCi (wc := (wX8_refuse cy aN qN aH vN)) (wc2 := (wX8_refuse cy aN qN aH vN_12)) (wr := [(aH, oX4 vH qH), (qN 2, oX6 vW qW aH0), (qN 1, oX1 vD qD), (qD 0, rI cy 9 vD_now), (qW 1, rI cy 36 vW_who), (qH 14, rI cy 7 vH_kinds), (qW 0, rI cy 7 vW_cells), (qH 8, rI cy 4 vH_sorts), (qH 12, rI cy 5 vH_doorOne), (qH 13, rI cy 5 vH_doorTwo)]) (ws2 := (wX8_meeting cy aN qN aH qH qW aH0 qD vN_12 vH vW vD vD_now vW_who vH_kinds vW_cells vH_sorts vH_doorOne vH_doorTwo)) (kRunV (As := [.int 1]) (rest := []) ⟨hx, hb, hml, hown, ht0⟩ (kX8_refuse l D cy _ aN qN aH vN (1 : Int32) r12 vN_12 hc12 _ rfl) (cwV 1 ht0 (gV wd504 wd505 wd506 wd57 wd507) rfl rfl rfl (by decide +kernel) ⟨Nat.le_of_ble_eq_true rfl, Nat.le_of_ble_eq_true rfl⟩) hK hN hP hD [0] rfl (by decide) 0 7 rfl rfl rfl hl.1 rfl (Nat.le_of_ble_eq_true rfl) dX8_meeting_12 ⟨Nat.zero_le _, Nat.zero_le _⟩) hP hD hS hA [0] [1, 2, 3, 4, 5, 6, 7, 8, 9, 10] rfl rfl (by decide) (by decide) [10, 0, 1, 2, 3, 4, 5, 6, 7, 8, 9] (by decide) rfl rfl (fun H locs hP hD hS => ?_)
    cases hok
    exact W.iret hx hb hr (fun t ht hW => ⟨⟨_, (), rfl, rfl, by rw [ht]; exact hP, va_K.moved hW.alike hK, hD⟩, hS.F ht⟩) hS.2.2 dX8_meeting_15
def wsX8_tenfold : List Cond := .code yX8_tenfold cX8_tenfold 1 (some .int) :: W0
abbrev wX8_tenfold (cy : Nat → ClassId)  : va_W := []
set_option maxHeartbeats 4000000 in
set_option maxRecDepth 100000 in
theorem kX8_tenfold (l : Launch) (D : va_G) (cy : Nat → ClassId) (sz : Nat) (x0 : Int32) (zr : Int32) (hok : fX8_tenfold x0 = some zr) (A : Nat → Prop) (hAe : va_A (wX8_tenfold cy ) sz = A) : Met l yX8_tenfold wsX8_tenfold ({ frames := 1, cells := 0, slots := 0, locals := 20 } : Room) (kPre D cy [.int x0] (wX8_tenfold cy ) sz) (kQi D cy zr A (wX8_tenfold cy )) 0 0 A := by
  refine Met.ofW (cc := cX8_tenfold) (maxL := 1) (ret := (some .int)) (by decide) rfl ?_
  intro p e s m args below meth c s₁ B hml hv
  obtain ⟨rfl, hsz, hP, hK, hD0, hN⟩ := hv
  have hx := B.exec
  have hb := B.bytes
  have hr := B.returns
  have ht0 : ∀ w ∈ W0, w.before _ s = true := fun w h => atoms_spec (ws := wsX8_tenfold) B.pre w (List.mem_cons_of_mem _ h)
  have hown : s.vm.findClass RX8 = some m.cls := findClass_of_methodNamed B.named
  have hlocks := B.notSynchronized
  subst hsz
  have hD : va_D A (wX8_tenfold cy ) := by rw [← hAe]; exact hD0.self
  have hA : ∀ q : Nat, s.heap.size ≤ q → A q := fun q h => by rw [← hAe]; exact Or.inr h
  have hS : va_S A s.heap s.heap [] := va_S.rf
  have hl := lv_entry ([.int x0]) (n := 1) (Nat.le_of_ble_eq_true rfl)
  rw [lg_entry_eq]
  generalize (lg_sl ([.int x0]) ++ List.replicate (1 - (lg_sl ([.int x0])).length) Slot.unset).toArray = ls at hl ⊢
  have hl : lv_has ls 1 [(0, .int x0)] := hl
  unfold fX8_tenfold at hok
  obtain ⟨H, hH⟩ : ∃ H, H = s.heap := ⟨_, rfl⟩
  obtain ⟨locs, hlc⟩ : ∃ x : List Loc, x = [] := ⟨_, rfl⟩
  have hP : va_P D vwCl (wX8_tenfold cy ) H := by rw [hH]; exact hP
  have hS : va_S A s.heap H locs := by rw [hH, hlc]; exact hS
  rw [show W p l e _ s m _ below meth c s.heap [] = W p l e _ s m _ below meth c H locs from by rw [hH, hlc]]
  refine lv_bipush (v := 10) hx hb dX8_tenfold_0 (by decide) ?_
  refine lv_iload_n hx hb dX8_tenfold_2 rfl (lv_at hl 0 rfl) ?_
  obtain ⟨r3, hc3, hok⟩ := k_bind hok
  refine kCi (wc := (wX8_ringOfCell cy )) (wc2 := (wX8_ringOfCell cy )) (wr := []) (ws2 := (wX8_tenfold cy )) (kRunS (As := [.int x0]) (rest := [.int 10]) ⟨hx, hb, hml, hown, ht0⟩ (kX8_ringOfCell l D cy _ x0 r3 hc3 _ rfl) (va_cwS 1 ht0 (gS wd557 wd58 wd57 wd56) rfl rfl rfl (by decide +kernel) ⟨Nat.le_of_ble_eq_true rfl, Nat.le_of_ble_eq_true rfl⟩) hK hN hP hD [] rfl (by decide) rfl hl.1 rfl (Nat.le_of_ble_eq_true rfl) dX8_tenfold_3 ⟨Nat.zero_le _, Nat.zero_le _⟩) hP hD hS hA [] [] rfl rfl (by decide) (by decide) [] (by decide) rfl rfl (fun H locs hP hD hS => ?_)
  refine lv_imul hx hb dX8_tenfold_6 ?_
  refine lv_iload_n hx hb dX8_tenfold_7 rfl (lv_at hl 0 rfl) ?_
  obtain ⟨r8, hc8, hok⟩ := k_bind hok
  refine kCi (wc := (wX8_placeOfCell cy )) (wc2 := (wX8_placeOfCell cy )) (wr := []) (ws2 := (wX8_tenfold cy )) (kRunS (As := [.int x0]) (rest := [.int ((10 : Int32) * r3)]) ⟨hx, hb, hml, hown, ht0⟩ (kX8_placeOfCell l D cy _ x0 r8 hc8 _ rfl) (va_cwS 1 ht0 (gS wd558 wd559 wd57 wd560) rfl rfl rfl (by decide +kernel) ⟨Nat.le_of_ble_eq_true rfl, Nat.le_of_ble_eq_true rfl⟩) hK hN hP hD [] rfl (by decide) rfl hl.1 rfl (Nat.le_of_ble_eq_true rfl) dX8_tenfold_8 ⟨Nat.zero_le _, Nat.zero_le _⟩) hP hD hS hA [] [] rfl rfl (by decide) (by decide) [] (by decide) rfl rfl (fun H locs hP hD hS => ?_)
  refine lv_iadd hx hb dX8_tenfold_11 ?_
  cases hok
  exact W.iret hx hb hr (fun t ht hW => ⟨⟨_, (), rfl, rfl, by rw [ht]; exact hP, va_K.moved hW.alike hK, hD⟩, hS.F ht⟩) hS.2.2 dX8_tenfold_12
def wsX8_behind : List Cond := .code yX8_behind cX8_behind 3 (some .int) :: W0
abbrev wX8_behind (cy : Nat → ClassId) (aN : Nat) (qN : Nat → Nat) (aH : Nat) (qH : Nat → Nat) (qW : Nat → Nat) (aH0 : Nat) (qD : Nat → Nat) (vN : Nat → Int32) (vH : Nat → Int32) (vW : Nat → Int32) (vD : Nat → Int32) (vD_now : Nat → Int32) (vW_who : Nat → Int32) (vH_kinds : Nat → Int32) (vW_cells : Nat → Int32) (vH_sorts : Nat → Int32) (vH_next : Nat → Int32) (vW_inFront : Nat → Int32) (vH_sizes : Nat → Int32) (vH_width : Nat → Int32) : va_W := [(aN, oX8 vN qN aH), (aH, oX4 vH qH), (qN 2, oX6 vW qW aH0), (qN 1, oX1 vD qD), (qD 0, rI cy 9 vD_now), (qW 1, rI cy 36 vW_who), (qH 14, rI cy 7 vH_kinds), (qW 0, rI cy 7 vW_cells), (qH 8, rI cy 4 vH_sorts), (qH 10, rI cy 36 vH_next), (qW 2, rI cy 7 vW_inFront), (qH 15, rI cy 7 vH_sizes), (qH 11, rI cy 36 vH_width)]
set_option maxHeartbeats 4000000 in
set_option maxRecDepth 100000 in
theorem kX8_behind (l : Launch) (D : va_G) (cy : Nat → ClassId) (sz : Nat) (aN : Nat) (qN : Nat → Nat) (aH : Nat) (qH : Nat → Nat) (qW : Nat → Nat) (aH0 : Nat) (qD : Nat → Nat) (vN : Nat → Int32) (vH : Nat → Int32) (vW : Nat → Int32) (vD : Nat → Int32) (vD_now : Nat → Int32) (vW_who : Nat → Int32) (vH_kinds : Nat → Int32) (vW_cells : Nat → Int32) (vH_sorts : Nat → Int32) (vH_next : Nat → Int32) (vW_inFront : Nat → Int32) (vH_sizes : Nat → Int32) (vH_width : Nat → Int32) (x1 : Int32) (x2 : Int32) (zr : Int32) (z_vN : Nat → Int32) (z_vW : Nat → Int32) (z_vW_who : Nat → Int32) (z_vW_cells : Nat → Int32) (z_vW_inFront : Nat → Int32) (z_aH0 : Nat) (hok : fX8_behind aH aH0 vN vH vW vD vD_now vW_who vH_kinds vW_cells vH_sorts vH_next vW_inFront vH_sizes vH_width x1 x2 = some (zr, z_vN, z_vW, z_vW_who, z_vW_cells, z_vW_inFront, z_aH0)) (A : Nat → Prop) (hAe : va_A (wX8_behind cy aN qN aH qH qW aH0 qD vN vH vW vD vD_now vW_who vH_kinds vW_cells vH_sorts vH_next vW_inFront vH_sizes vH_width) sz = A) : Met l yX8_behind wsX8_behind ({ frames := 4, cells := 0, slots := 0, locals := 96 } : Room) (kPre D cy [.ref aN, .int x1, .int x2] (wX8_behind cy aN qN aH qH qW aH0 qD vN vH vW vD vD_now vW_who vH_kinds vW_cells vH_sorts vH_next vW_inFront vH_sizes vH_width) sz) (kQi D cy zr A (wX8_behind cy aN qN aH qH qW z_aH0 qD z_vN vH z_vW vD vD_now z_vW_who vH_kinds z_vW_cells vH_sorts vH_next z_vW_inFront vH_sizes vH_width)) 0 0 A := by
  refine Met.ofW (cc := cX8_behind) (maxL := 3) (ret := (some .int)) (by decide) rfl ?_
  intro p e s m args below meth c s₁ B hml hv
  obtain ⟨rfl, hsz, hP, hK, hD0, hN⟩ := hv
  have hx := B.exec
  have hb := B.bytes
  have hr := B.returns
  have ht0 : ∀ w ∈ W0, w.before _ s = true := fun w h => atoms_spec (ws := wsX8_behind) B.pre w (List.mem_cons_of_mem _ h)
  have hown : s.vm.findClass RX8 = some m.cls := findClass_of_methodNamed B.named
  have hlocks := B.notSynchronized
  subst hsz
  have hD : va_D A (wX8_behind cy aN qN aH qH qW aH0 qD vN vH vW vD vD_now vW_who vH_kinds vW_cells vH_sorts vH_next vW_inFront vH_sizes vH_width) := by rw [← hAe]; exact hD0.self
  have hA : ∀ q : Nat, s.heap.size ≤ q → A q := fun q h => by rw [← hAe]; exact Or.inr h
  have hS : va_S A s.heap s.heap [] := va_S.rf
  have hl := lv_entry ([.ref aN, .int x1, .int x2]) (n := 3) (Nat.le_of_ble_eq_true rfl)
  rw [lg_entry_eq]
  generalize (lg_sl ([.ref aN, .int x1, .int x2]) ++ List.replicate (3 - (lg_sl ([.ref aN, .int x1, .int x2])).length) Slot.unset).toArray = ls at hl ⊢
  have hl : lv_has ls 3 [(0, .ref aN), (1, .int x1), (2, .int x2)] := hl
  generalize hQe : MQ below (kQi D cy zr A (wX8_behind cy aN qN aH qH qW z_aH0 qD z_vN vH z_vW vD vD_now z_vW_who vH_kinds z_vW_cells vH_sorts vH_next z_vW_inFront vH_sizes vH_width)) ([.ref aN, .int x1, .int x2] : List Value).toArray s 0 0 A = Q
  have J28 : ∀ (H : Heap) (locs : List Loc) (ls : Array Slot), va_P D vwCl (wX8_behind cy aN qN aH qH qW aH0 qD vN vH vW vD vD_now vW_who vH_kinds vW_cells vH_sorts vH_next vW_inFront vH_sizes vH_width) H → va_D A (wX8_behind cy aN qN aH qH qW aH0 qD vN vH vW vD vD_now vW_who vH_kinds vW_cells vH_sorts vH_next vW_inFront vH_sizes vH_width) → va_S A s.heap H locs → lv_has ls 3 [(0, .ref aN)] → fX8_behind_J28 aH0 vN vW vW_who vW_cells vW_inFront = some (zr, z_vN, z_vW, z_vW_who, z_vW_cells, z_vW_inFront, z_aH0) → W p l e ({ frames := 4, cells := 0, slots := 0, locals := 96 } : Room) s m ([.ref aN, .int x1, .int x2] : List Value).toArray below meth c H locs 0 0 Q (F0 m 28 ls []) := by
    intro  H locs ls hP hD hS hl hok
    unfold fX8_behind_J28 at hok
    refine lv_aload_n hx hb dX8_behind_28 rfl (lv_at hl 0 rfl) ?_
    refine lv_iconst (v := 2) hx hb dX8_behind_29 (by decide) ?_
    obtain ⟨⟨r30, vN_30⟩, hc30, hok⟩ := k_bind hok
    try dsimp only at hok
    refine kCi (wc := (wX8_refuse cy aN qN aH vN)) (wc2 := (wX8_refuse cy aN qN aH vN_30)) (wr := [(aH, oX4 vH qH), (qN 2, oX6 vW qW aH0), (qN 1, oX1 vD qD), (qD 0, rI cy 9 vD_now), (qW 1, rI cy 36 vW_who), (qH 14, rI cy 7 vH_kinds), (qW 0, rI cy 7 vW_cells), (qH 8, rI cy 4 vH_sorts), (qH 10, rI cy 36 vH_next), (qW 2, rI cy 7 vW_inFront), (qH 15, rI cy 7 vH_sizes), (qH 11, rI cy 36 vH_width)]) (ws2 := (wX8_behind cy aN qN aH qH qW aH0 qD vN_30 vH vW vD vD_now vW_who vH_kinds vW_cells vH_sorts vH_next vW_inFront vH_sizes vH_width)) (kRunV (As := [.int 2]) (rest := []) ⟨hx, hb, hml, hown, ht0⟩ (kX8_refuse l D cy _ aN qN aH vN (2 : Int32) r30 vN_30 hc30 _ rfl) (cwV 1 ht0 (gV wd504 wd505 wd506 wd57 wd507) rfl rfl rfl (by decide +kernel) ⟨Nat.le_of_ble_eq_true rfl, Nat.le_of_ble_eq_true rfl⟩) hK hN hP hD [0] rfl (by decide) 0 7 rfl rfl rfl hl.1 rfl (Nat.le_of_ble_eq_true rfl) dX8_behind_30 ⟨Nat.zero_le _, Nat.zero_le _⟩) hP hD hS hA [0] [1, 2, 3, 4, 5, 6, 7, 8, 9, 10, 11, 12] rfl rfl (by decide) (by decide) [12, 0, 1, 2, 3, 4, 5, 6, 7, 8, 9, 10, 11] (by decide) rfl rfl (fun H locs hP hD hS => ?_)
    cases hok
    subst hQe; exact W.iret hx hb hr (fun t ht hW => ⟨⟨_, (), rfl, rfl, by rw [ht]; exact hP, va_K.moved hW.alike hK, hD⟩, hS.F ht⟩) hS.2.2 dX8_behind_33
  unfold fX8_behind at hok
  obtain ⟨H, hH⟩ : ∃ H, H = s.heap := ⟨_, rfl⟩
  obtain ⟨locs, hlc⟩ : ∃ x : List Loc, x = [] := ⟨_, rfl⟩
  have hP : va_P D vwCl (wX8_behind cy aN qN aH qH qW aH0 qD vN vH vW vD vD_now vW_who vH_kinds vW_cells vH_sorts vH_next vW_inFront vH_sizes vH_width) H := by rw [hH]; exact hP
  have hS : va_S A s.heap H locs := by rw [hH, hlc]; exact hS
  rw [show W p l e _ s m _ below meth c s.heap [] = W p l e _ s m _ below meth c H locs from by rw [hH, hlc]]
  refine lv_aload_n hx hb dX8_behind_0 rfl (lv_at hl 0 rfl) ?_
  refine va_get (D := D) (ci := 7) (v := .ref aH) (C := RX8) (T := TX8) (N := 9) hx hb ht0 niX8 hown hK hP 0 rfl rfl 5 (by decide) (ht0 _ wd522) (fun _ h9 => h9) rfl dX8_behind_1 ?_
  refine lv_iload_n hx hb dX8_behind_4 rfl (lv_at hl 1 rfl) ?_
  obtain ⟨r5, hc5, hok⟩ := k_bind hok
  refine kCi (wc := (wX4_hasThing cy aH qH vH)) (wc2 := (wX4_hasThing cy aH qH vH)) (wr := [(aN, oX8 vN qN aH), (qN 2, oX6 vW qW aH0), (qN 1, oX1 vD qD), (qD 0, rI cy 9 vD_now), (qW 1, rI cy 36 vW_who), (qH 14, rI cy 7 vH_kinds), (qW 0, rI cy 7 vW_cells), (qH 8, rI cy 4 vH_sorts), (qH 10, rI cy 36 vH_next), (qW 2, rI cy 7 vW_inFront), (qH 15, rI cy 7 vH_sizes), (qH 11, rI cy 36 vH_width)]) (ws2 := (wX8_behind cy aN qN aH qH qW aH0 qD vN vH vW vD vD_now vW_who vH_kinds vW_cells vH_sorts vH_next vW_inFront vH_sizes vH_width)) (kRunV (As := [.int x1]) (rest := []) ⟨hx, hb, hml, hown, ht0⟩ (kX4_hasThing l D cy _ aH qH vH x1 r5 hc5 _ rfl) (cwV 1 ht0 (gV wd551 wd552 wd553 wd9 wd554) rfl rfl rfl (by decide +kernel) ⟨Nat.le_of_ble_eq_true rfl, Nat.le_of_ble_eq_true rfl⟩) hK hN hP hD [1] rfl (by decide) 1 3 rfl rfl rfl hl.1 rfl (Nat.le_of_ble_eq_true rfl) dX8_behind_5 ⟨Nat.zero_le _, Nat.zero_le _⟩) hP hD hS hA [1] [0, 2, 3, 4, 5, 6, 7, 8, 9, 10, 11, 12] rfl rfl (by decide) (by decide) [0, 12, 1, 2, 3, 4, 5, 6, 7, 8, 9, 10, 11] (by decide) rfl rfl (fun H locs hP hD hS => ?_)
  refine lv_if_ne (tgt := 17) hx hb dX8_behind_8 (by decide) (fun c8 => ?_) (fun c8 => ?_)
  · have hok := k_neg c8 hok
    refine lv_iload_n hx hb dX8_behind_17 rfl (lv_at hl 2 rfl) ?_
    refine lv_if_lt (tgt := 28) hx hb dX8_behind_18 (by decide) (fun c18 => ?_) (fun c18 => ?_)
    · have hok := k_pos c18 hok
      exact J28  H locs ls hP hD hS (lv_sub hl [0] rfl) hok
    · have hok := k_neg c18 hok
      refine lv_iload_n hx hb dX8_behind_21 rfl (lv_at hl 2 rfl) ?_
      refine lv_sipush (v := 200) hx hb dX8_behind_22 (by decide) ?_
      refine lv_icmp_le (tgt := 34) hx hb dX8_behind_25 (by decide) (fun c25 => ?_) (fun c25 => ?_)
      · have hok := k_pos c25 hok
        refine lv_aload_n hx hb dX8_behind_34 rfl (lv_at hl 0 rfl) ?_
        refine va_get (D := D) (ci := 7) (v := .ref (qN 2)) (C := RX8) (T := TX8) (N := 9) hx hb ht0 niX8 hown hK hP 0 rfl rfl 2 (by decide) (ht0 _ wd578) (fun _ h9 => h9) rfl dX8_behind_35 ?_
        refine lv_aload_n hx hb dX8_behind_38 rfl (lv_at hl 0 rfl) ?_
        refine va_get (D := D) (ci := 7) (v := .ref aH) (C := RX8) (T := TX8) (N := 9) hx hb ht0 niX8 hown hK hP 0 rfl rfl 5 (by decide) (ht0 _ wd522) (fun _ h9 => h9) rfl dX8_behind_39 ?_
        refine lv_aload_n hx hb dX8_behind_42 rfl (lv_at hl 0 rfl) ?_
        refine va_get (D := D) (ci := 7) (v := .ref (qN 1)) (C := RX8) (T := TX8) (N := 9) hx hb ht0 niX8 hown hK hP 0 rfl rfl 1 (by decide) (ht0 _ wd527) (fun _ h9 => h9) rfl dX8_behind_43 ?_
        refine lv_iconst (v := 0) hx hb dX8_behind_46 (by decide) ?_
        obtain ⟨⟨vW_47, vW_who_47, vW_cells_47⟩, hc47, hok⟩ := k_bind hok
        try dsimp only at hok
        refine kCv (wc := (wX6_start cy (qN 2) aH (qN 1) qW aH0 qD qH vW vD vD_now vW_who vH vH_kinds vW_cells vH_sorts)) (wc2 := (wX6_start cy (qN 2) aH (qN 1) qW aH qD qH vW_47 vD vD_now vW_who_47 vH vH_kinds vW_cells_47 vH_sorts)) (wr := [(aN, oX8 vN qN aH), (qH 10, rI cy 36 vH_next), (qW 2, rI cy 7 vW_inFront), (qH 15, rI cy 7 vH_sizes), (qH 11, rI cy 36 vH_width)]) (ws2 := (wX8_behind cy aN qN aH qH qW aH qD vN vH vW_47 vD vD_now vW_who_47 vH_kinds vW_cells_47 vH_sorts vH_next vW_inFront vH_sizes vH_width)) (kRunV (As := [.ref aH, .ref (qN 1), .int 0]) (rest := []) ⟨hx, hb, hml, hown, ht0⟩ (kX6_start l D cy _ (qN 2) aH (qN 1) qW aH0 qD qH vW vD vD_now vW_who vH vH_kinds vW_cells vH_sorts (0 : Int32) vW_47 vW_who_47 vW_cells_47 hc47 _ rfl) (cwV 3 ht0 (gV wd579 wd181 wd182 wd114 wd183) rfl rfl rfl (by decide +kernel) ⟨Nat.le_of_ble_eq_true rfl, Nat.le_of_ble_eq_true rfl⟩) hK hN hP hD [2, 3, 4, 5, 1, 6, 7, 8] rfl (by decide) 2 5 rfl rfl rfl hl.1 rfl (Nat.le_of_ble_eq_true rfl) dX8_behind_47 ⟨Nat.zero_le _, Nat.zero_le _⟩) hP hD hS hA [2, 3, 4, 5, 1, 6, 7, 8] [0, 9, 10, 11, 12] rfl rfl (by decide) (by decide) [0, 9, 5, 6, 7, 8, 10, 11, 12, 1, 2, 3, 4] (by decide) rfl rfl (fun H locs hP hD hS => ?_)
        refine lv_aload_n hx hb dX8_behind_50 rfl (lv_at hl 0 rfl) ?_
        refine va_get (D := D) (ci := 7) (v := .ref (qN 2)) (C := RX8) (T := TX8) (N := 9) hx hb ht0 niX8 hown hK hP 0 rfl rfl 2 (by decide) (ht0 _ wd578) (fun _ h9 => h9) rfl dX8_behind_51 ?_
        refine lv_iload_n hx hb dX8_behind_54 rfl (lv_at hl 2 rfl) ?_
        obtain ⟨⟨r55, vW_55, vW_cells_55, vW_who_55, vW_inFront_55⟩, hc55, hok⟩ := k_bind hok
        try dsimp only at hok
        refine kCi (wc := (wX6_goOn cy (qN 2) qW aH qH vW_47 vH vW_cells_47 vH_next vW_who_47 vW_inFront vH_sizes vH_width vH_kinds)) (wc2 := (wX6_goOn cy (qN 2) qW aH qH vW_55 vH vW_cells_55 vH_next vW_who_55 vW_inFront_55 vH_sizes vH_width vH_kinds)) (wr := [(aN, oX8 vN qN aH), (qN 1, oX1 vD qD), (qD 0, rI cy 9 vD_now), (qH 8, rI cy 4 vH_sorts)]) (ws2 := (wX8_behind cy aN qN aH qH qW aH qD vN vH vW_55 vD vD_now vW_who_55 vH_kinds vW_cells_55 vH_sorts vH_next vW_inFront_55 vH_sizes vH_width)) (kRunV (As := [.int x2]) (rest := []) ⟨hx, hb, hml, hown, ht0⟩ (kX6_goOn l D cy _ (qN 2) qW aH qH vW_47 vH vW_cells_47 vH_next vW_who_47 vW_inFront vH_sizes vH_width vH_kinds x2 r55 vW_55 vW_cells_55 vW_who_55 vW_inFront_55 hc55 _ rfl) (cwV 1 ht0 (gV wd593 wd185 wd186 wd114 wd187) rfl rfl rfl (by decide +kernel) ⟨Nat.le_of_ble_eq_true rfl, Nat.le_of_ble_eq_true rfl⟩) hK hN hP hD [2, 1, 7, 9, 5, 10, 11, 12, 6] rfl (by decide) 2 5 rfl rfl rfl hl.1 rfl (Nat.le_of_ble_eq_true rfl) dX8_behind_55 ⟨Nat.zero_le _, Nat.zero_le _⟩) hP hD hS hA [2, 1, 7, 9, 5, 10, 11, 12, 6] [0, 3, 4, 8] rfl rfl (by decide) (by decide) [0, 5, 4, 1, 2, 8, 12, 6, 3, 7, 9, 10, 11] (by decide) rfl rfl (fun H locs hP hD hS => ?_)
        refine lv_pop hx hb dX8_behind_58 rfl ?_
        refine lv_aload_n hx hb dX8_behind_59 rfl (lv_at hl 0 rfl) ?_
        refine lv_aload_n hx hb dX8_behind_60 rfl (lv_at hl 0 rfl) ?_
        refine va_get (D := D) (ci := 7) (v := .ref (qN 2)) (C := RX8) (T := TX8) (N := 9) hx hb ht0 niX8 hown hK hP 0 rfl rfl 2 (by decide) (ht0 _ wd578) (fun _ h9 => h9) rfl dX8_behind_61 ?_
        refine lv_iload_n hx hb dX8_behind_64 rfl (lv_at hl 1 rfl) ?_
        obtain ⟨r65, hc65, hok⟩ := k_bind hok
        refine kCi (wc := (wX6_cellOf cy (qN 2) qW aH vW_55 vW_cells_55)) (wc2 := (wX6_cellOf cy (qN 2) qW aH vW_55 vW_cells_55)) (wr := [(aN, oX8 vN qN aH), (aH, oX4 vH qH), (qN 1, oX1 vD qD), (qD 0, rI cy 9 vD_now), (qW 1, rI cy 36 vW_who_55), (qH 14, rI cy 7 vH_kinds), (qH 8, rI cy 4 vH_sorts), (qH 10, rI cy 36 vH_next), (qW 2, rI cy 7 vW_inFront_55), (qH 15, rI cy 7 vH_sizes), (qH 11, rI cy 36 vH_width)]) (ws2 := (wX8_behind cy aN qN aH qH qW aH qD vN vH vW_55 vD vD_now vW_who_55 vH_kinds vW_cells_55 vH_sorts vH_next vW_inFront_55 vH_sizes vH_width)) (kRunV (As := [.int x1]) (rest := [.ref aN]) ⟨hx, hb, hml, hown, ht0⟩ (kX6_cellOf l D cy _ (qN 2) qW aH vW_55 vW_cells_55 x1 r65 hc65 _ rfl) (cwV 1 ht0 (gV wd594 wd163 wd164 wd114 wd165) rfl rfl rfl (by decide +kernel) ⟨Nat.le_of_ble_eq_true rfl, Nat.le_of_ble_eq_true rfl⟩) hK hN hP hD [2, 7] rfl (by decide) 2 5 rfl rfl rfl hl.1 rfl (Nat.le_of_ble_eq_true rfl) dX8_behind_65 ⟨Nat.zero_le _, Nat.zero_le _⟩) hP hD hS hA [2, 7] [0, 1, 3, 4, 5, 6, 8, 9, 10, 11, 12] rfl rfl (by decide) (by decide) [0, 1, 11, 2, 3, 4, 5, 12, 6, 7, 8, 9, 10] (by decide) rfl rfl (fun H locs hP hD hS => ?_)
        obtain ⟨r68, hc68, hok⟩ := k_bind hok
        refine kCi (wc := (wX8_tenfold cy )) (wc2 := (wX8_tenfold cy )) (wr := [(aN, oX8 vN qN aH), (aH, oX4 vH qH), (qN 2, oX6 vW_55 qW aH), (qN 1, oX1 vD qD), (qD 0, rI cy 9 vD_now), (qW 1, rI cy 36 vW_who_55), (qH 14, rI cy 7 vH_kinds), (qW 0, rI cy 7 vW_cells_55), (qH 8, rI cy 4 vH_sorts), (qH 10, rI cy 36 vH_next), (qW 2, rI cy 7 vW_inFront_55), (qH 15, rI cy 7 vH_sizes), (qH 11, rI cy 36 vH_width)]) (ws2 := (wX8_behind cy aN qN aH qH qW aH qD vN vH vW_55 vD vD_now vW_who_55 vH_kinds vW_cells_55 vH_sorts vH_next vW_inFront_55 vH_sizes vH_width)) (kRunS (As := [.int r65]) (rest := [.ref aN]) ⟨hx, hb, hml, hown, ht0⟩ (kX8_tenfold l D cy _ r65 r68 hc68 _ rfl) (va_cwS 1 ht0 (gS wd595 wd596 wd57 wd597) rfl rfl rfl (by decide +kernel) ⟨Nat.le_of_ble_eq_true rfl, Nat.le_of_ble_eq_true rfl⟩) hK hN hP hD [] rfl (by decide) rfl hl.1 rfl (Nat.le_of_ble_eq_true rfl) dX8_behind_68 ⟨Nat.zero_le _, Nat.zero_le _⟩) hP hD hS hA [] [0, 1, 2, 3, 4, 5, 6, 7, 8, 9, 10, 11, 12] rfl rfl (by decide) (by decide) [0, 1, 2, 3, 4, 5, 6, 7, 8, 9, 10, 11, 12] (by decide) rfl rfl (fun H locs hP hD hS => ?_)
        obtain ⟨⟨r71, vN_71⟩, hc71, hok⟩ := k_bind hok
        try dsimp only at hok
        refine kCi (wc := (wX8_answer cy aN qN aH vN)) (wc2 := (wX8_answer cy aN qN aH vN_71)) (wr := [(aH, oX4 vH qH), (qN 2, oX6 vW_55 qW aH), (qN 1, oX1 vD qD), (qD 0, rI cy 9 vD_now), (qW 1, rI cy 36 vW_who_55), (qH 14, rI cy 7 vH_kinds), (qW 0, rI cy 7 vW_cells_55), (qH 8, rI cy 4 vH_sorts), (qH 10, rI cy 36 vH_next), (qW 2, rI cy 7 vW_inFront_55), (qH 15, rI cy 7 vH_sizes), (qH 11, rI cy 36 vH_width)]) (ws2 := (wX8_behind cy aN qN aH qH qW aH qD vN_71 vH vW_55 vD vD_now vW_who_55 vH_kinds vW_cells_55 vH_sorts vH_next vW_inFront_55 vH_sizes vH_width)) (kRunV (As := [.int r68]) (rest := []) ⟨hx, hb, hml, hown, ht0⟩ (kX8_answer l D cy _ aN qN aH vN r68 r71 vN_71 hc71 _ rfl) (cwV 1 ht0 (gV wd538 wd539 wd540 wd57 wd541) rfl rfl rfl (by decide +kernel) ⟨Nat.le_of_ble_eq_true rfl, Nat.le_of_ble_eq_true rfl⟩) hK hN hP hD [0] rfl (by decide) 0 7 rfl rfl rfl hl.1 rfl (Nat.le_of_ble_eq_true rfl) dX8_behind_71 ⟨Nat.zero_le _, Nat.zero_le _⟩) hP hD hS hA [0] [1, 2, 3, 4, 5, 6, 7, 8, 9, 10, 11, 12] rfl rfl (by decide) (by decide) [12, 0, 1, 2, 3, 4, 5, 6, 7, 8, 9, 10, 11] (by decide) rfl rfl (fun H locs hP hD hS => ?_)
        cases hok
        subst hQe; exact W.iret hx hb hr (fun t ht hW => ⟨⟨_, (), rfl, rfl, by rw [ht]; exact hP, va_K.moved hW.alike hK, hD⟩, hS.F ht⟩) hS.2.2 dX8_behind_74
      · have hok := k_neg c25 hok
        exact J28  H locs ls hP hD hS (lv_sub hl [0] rfl) hok
  · have hok := k_pos c8 hok
    refine lv_aload_n hx hb dX8_behind_11 rfl (lv_at hl 0 rfl) ?_
    refine lv_iconst (v := 1) hx hb dX8_behind_12 (by decide) ?_
    obtain ⟨⟨r13, vN_13⟩, hc13, hok⟩ := k_bind hok
    try dsimp only at hok
    refine kCi (wc := (wX8_refuse cy aN qN aH vN)) (wc2 := (wX8_refuse cy aN qN aH vN_13)) (wr := [(aH, oX4 vH qH), (qN 2, oX6 vW qW aH0), (qN 1, oX1 vD qD), (qD 0, rI cy 9 vD_now), (qW 1, rI cy 36 vW_who), (qH 14, rI cy 7 vH_kinds), (qW 0, rI cy 7 vW_cells), (qH 8, rI cy 4 vH_sorts), (qH 10, rI cy 36 vH_next), (qW 2, rI cy 7 vW_inFront), (qH 15, rI cy 7 vH_sizes), (qH 11, rI cy 36 vH_width)]) (ws2 := (wX8_behind cy aN qN aH qH qW aH0 qD vN_13 vH vW vD vD_now vW_who vH_kinds vW_cells vH_sorts vH_next vW_inFront vH_sizes vH_width)) (kRunV (As := [.int 1]) (rest := []) ⟨hx, hb, hml, hown, ht0⟩ (kX8_refuse l D cy _ aN qN aH vN (1 : Int32) r13 vN_13 hc13 _ rfl) (cwV 1 ht0 (gV wd504 wd505 wd506 wd57 wd507) rfl rfl rfl (by decide +kernel) ⟨Nat.le_of_ble_eq_true rfl, Nat.le_of_ble_eq_true rfl⟩) hK hN hP hD [0] rfl (by decide) 0 7 rfl rfl rfl hl.1 rfl (Nat.le_of_ble_eq_true rfl) dX8_behind_13 ⟨Nat.zero_le _, Nat.zero_le _⟩) hP hD hS hA [0] [1, 2, 3, 4, 5, 6, 7, 8, 9, 10, 11, 12] rfl rfl (by decide) (by decide) [12, 0, 1, 2, 3, 4, 5, 6, 7, 8, 9, 10, 11] (by decide) rfl rfl (fun H locs hP hD hS => ?_)
    cases hok
    subst hQe; exact W.iret hx hb hr (fun t ht hW => ⟨⟨_, (), rfl, rfl, by rw [ht]; exact hP, va_K.moved hW.alike hK, hD⟩, hS.F ht⟩) hS.2.2 dX8_behind_16
def wsX8_when : List Cond := .code yX8_when cX8_when 6 (some .int) :: W0
abbrev wX8_when (cy : Nat → ClassId) (aN : Nat) (qN : Nat → Nat) (aH : Nat) (qH : Nat → Nat) (qW : Nat → Nat) (aH0 : Nat) (qD : Nat → Nat) (vN : Nat → Int32) (vH : Nat → Int32) (vH_places : Nat → Int32) (vW : Nat → Int32) (vD : Nat → Int32) (vD_now : Nat → Int32) (vW_who : Nat → Int32) (vH_kinds : Nat → Int32) (vW_cells : Nat → Int32) (vH_sorts : Nat → Int32) (vH_next : Nat → Int32) (vW_inFront : Nat → Int32) (vH_sizes : Nat → Int32) (vH_width : Nat → Int32) : va_W := [(aN, oX8 vN qN aH), (aH, oX4 vH qH), (qH 9, rI cy 4 vH_places), (qN 2, oX6 vW qW aH0), (qN 1, oX1 vD qD), (qD 0, rI cy 9 vD_now), (qW 1, rI cy 36 vW_who), (qH 14, rI cy 7 vH_kinds), (qW 0, rI cy 7 vW_cells), (qH 8, rI cy 4 vH_sorts), (qH 10, rI cy 36 vH_next), (qW 2, rI cy 7 vW_inFront), (qH 15, rI cy 7 vH_sizes), (qH 11, rI cy 36 vH_width)]
set_option maxHeartbeats 4000000 in
set_option maxRecDepth 100000 in
theorem kX8_when (l : Launch) (D : va_G) (cy : Nat → ClassId) (sz : Nat) (aN : Nat) (qN : Nat → Nat) (aH : Nat) (qH : Nat → Nat) (qW : Nat → Nat) (aH0 : Nat) (qD : Nat → Nat) (vN : Nat → Int32) (vH : Nat → Int32) (vH_places : Nat → Int32) (vW : Nat → Int32) (vD : Nat → Int32) (vD_now : Nat → Int32) (vW_who : Nat → Int32) (vH_kinds : Nat → Int32) (vW_cells : Nat → Int32) (vH_sorts : Nat → Int32) (vH_next : Nat → Int32) (vW_inFront : Nat → Int32) (vH_sizes : Nat → Int32) (vH_width : Nat → Int32) (x1 : Int32) (x2 : Int32) (x3 : Int32) (zr : Int32) (z_vN : Nat → Int32) (z_vW : Nat → Int32) (z_vW_who : Nat → Int32) (z_vW_cells : Nat → Int32) (z_vW_inFront : Nat → Int32) (z_aH0 : Nat) (hok : fX8_when aH aH0 vN vH vH_places vW vD vD_now vW_who vH_kinds vW_cells vH_sorts vH_next vW_inFront vH_sizes vH_width x1 x2 x3 = some (zr, z_vN, z_vW, z_vW_who, z_vW_cells, z_vW_inFront, z_aH0)) (A : Nat → Prop) (hAe : va_A (wX8_when cy aN qN aH qH qW aH0 qD vN vH vH_places vW vD vD_now vW_who vH_kinds vW_cells vH_sorts vH_next vW_inFront vH_sizes vH_width) sz = A) : Met l yX8_when wsX8_when ({ frames := 3, cells := 0, slots := 0, locals := 73 } : Room) (kPre D cy [.ref aN, .int x1, .int x2, .int x3] (wX8_when cy aN qN aH qH qW aH0 qD vN vH vH_places vW vD vD_now vW_who vH_kinds vW_cells vH_sorts vH_next vW_inFront vH_sizes vH_width) sz) (kQi D cy zr A (wX8_when cy aN qN aH qH qW z_aH0 qD z_vN vH vH_places z_vW vD vD_now z_vW_who vH_kinds z_vW_cells vH_sorts vH_next z_vW_inFront vH_sizes vH_width)) 0 0 A := by
  refine Met.ofW (cc := cX8_when) (maxL := 6) (ret := (some .int)) (by decide) rfl ?_
  intro p e s m args below meth c s₁ B hml hv
  obtain ⟨rfl, hsz, hP, hK, hD0, hN⟩ := hv
  have hx := B.exec
  have hb := B.bytes
  have hr := B.returns
  have ht0 : ∀ w ∈ W0, w.before _ s = true := fun w h => atoms_spec (ws := wsX8_when) B.pre w (List.mem_cons_of_mem _ h)
  have hown : s.vm.findClass RX8 = some m.cls := findClass_of_methodNamed B.named
  have hlocks := B.notSynchronized
  subst hsz
  have hD : va_D A (wX8_when cy aN qN aH qH qW aH0 qD vN vH vH_places vW vD vD_now vW_who vH_kinds vW_cells vH_sorts vH_next vW_inFront vH_sizes vH_width) := by rw [← hAe]; exact hD0.self
  have hA : ∀ q : Nat, s.heap.size ≤ q → A q := fun q h => by rw [← hAe]; exact Or.inr h
  have hS : va_S A s.heap s.heap [] := va_S.rf
  have hl := lv_entry ([.ref aN, .int x1, .int x2, .int x3]) (n := 6) (Nat.le_of_ble_eq_true rfl)
  rw [lg_entry_eq]
  generalize (lg_sl ([.ref aN, .int x1, .int x2, .int x3]) ++ List.replicate (6 - (lg_sl ([.ref aN, .int x1, .int x2, .int x3])).length) Slot.unset).toArray = ls at hl ⊢
  have hl : lv_has ls 6 [(0, .ref aN), (1, .int x1), (2, .int x2), (3, .int x3)] := hl
  generalize hQe : MQ below (kQi D cy zr A (wX8_when cy aN qN aH qH qW z_aH0 qD z_vN vH vH_places z_vW vD vD_now z_vW_who vH_kinds z_vW_cells vH_sorts vH_next z_vW_inFront vH_sizes vH_width)) ([.ref aN, .int x1, .int x2, .int x3] : List Value).toArray s 0 0 A = Q
  have L55 : ∀ (fuel : Nat) (y4_55 : Int32) (y5_55 : Int32) (vW_cells_55 : Nat → Int32) (vW_inFront_55 : Nat → Int32) (vW_who_55 : Nat → Int32) (vW_55 : Nat → Int32), ∀ (H : Heap) (locs : List Loc) (ls : Array Slot), va_P D vwCl (wX8_when cy aN qN aH qH qW aH qD vN vH vH_places vW_55 vD vD_now vW_who_55 vH_kinds vW_cells_55 vH_sorts vH_next vW_inFront_55 vH_sizes vH_width) H → va_D A (wX8_when cy aN qN aH qH qW aH qD vN vH vH_places vW_55 vD vD_now vW_who_55 vH_kinds vW_cells_55 vH_sorts vH_next vW_inFront_55 vH_sizes vH_width) → va_S A s.heap H locs → lv_has ls 6 [(0, .ref aN), (1, .int x1), (4, .int y4_55), (5, .int y5_55)] → lp (fX8_when_B55 aH vN vH vH_kinds vH_next vH_sizes vH_width x1) fuel (y4_55, y5_55, vW_cells_55, vW_inFront_55, vW_who_55, vW_55) = some (zr, z_vN, z_vW, z_vW_who, z_vW_cells, z_vW_inFront, z_aH0) → W p l e ({ frames := 3, cells := 0, slots := 0, locals := 73 } : Room) s m ([.ref aN, .int x1, .int x2, .int x3] : List Value).toArray below meth c H locs 0 0 Q (F0 m 55 ls []) := by
    intro fuel
    induction fuel with
    | zero => intro y4_55 y5_55 vW_cells_55 vW_inFront_55 vW_who_55 vW_55 H locs ls hP hD hS hl hok; exact (lp_0 hok).elim
    | succ fuel ih55 =>
      intro y4_55 y5_55 vW_cells_55 vW_inFront_55 vW_who_55 vW_55 H locs ls hP hD hS hl hok
      obtain ⟨y55, hok, hL55, hR55⟩ := lp_step hok
      unfold fX8_when_B55 at hok
      try dsimp only at hok
      refine lv_iload hx hb dX8_when_55 (lv_at hl 3 rfl) ?_
      refine lv_sipush (v := 200) hx hb dX8_when_57 (by decide) ?_
      refine lv_icmp_gt (tgt := 97) hx hb dX8_when_60 (by decide) (fun c60 => ?_) (fun c60 => ?_)
      · have hok := k_pos c60 hok
        obtain ⟨e55, hok, he55⟩ := ex_some hok
        have hok := hok.trans (congrArg some (hL55 _ he55))
        refine lv_aload_n hx hb dX8_when_97 rfl (lv_at hl 0 rfl) ?_
        refine lv_bipush (v := -2) hx hb dX8_when_98 (by decide) ?_
        obtain ⟨⟨r100, vN_100⟩, hc100, hok⟩ := k_bind hok
        try dsimp only at hok
        refine kCi (wc := (wX8_answer cy aN qN aH vN)) (wc2 := (wX8_answer cy aN qN aH vN_100)) (wr := [(aH, oX4 vH qH), (qH 9, rI cy 4 vH_places), (qN 2, oX6 vW_55 qW aH), (qN 1, oX1 vD qD), (qD 0, rI cy 9 vD_now), (qW 1, rI cy 36 vW_who_55), (qH 14, rI cy 7 vH_kinds), (qW 0, rI cy 7 vW_cells_55), (qH 8, rI cy 4 vH_sorts), (qH 10, rI cy 36 vH_next), (qW 2, rI cy 7 vW_inFront_55), (qH 15, rI cy 7 vH_sizes), (qH 11, rI cy 36 vH_width)]) (ws2 := (wX8_when cy aN qN aH qH qW aH qD vN_100 vH vH_places vW_55 vD vD_now vW_who_55 vH_kinds vW_cells_55 vH_sorts vH_next vW_inFront_55 vH_sizes vH_width)) (kRunV (As := [.int (-2)]) (rest := []) ⟨hx, hb, hml, hown, ht0⟩ (kX8_answer l D cy _ aN qN aH vN (-2 : Int32) r100 vN_100 hc100 _ rfl) (cwV 1 ht0 (gV wd538 wd539 wd540 wd57 wd541) rfl rfl rfl (by decide +kernel) ⟨Nat.le_of_ble_eq_true rfl, Nat.le_of_ble_eq_true rfl⟩) hK hN hP hD [0] rfl (by decide) 0 7 rfl rfl rfl hl.1 rfl (Nat.le_of_ble_eq_true rfl) dX8_when_100 ⟨Nat.zero_le _, Nat.zero_le _⟩) hP hD hS hA [0] [1, 2, 3, 4, 5, 6, 7, 8, 9, 10, 11, 12, 13] rfl rfl (by decide) (by decide) [13, 0, 1, 2, 3, 4, 5, 6, 7, 8, 9, 10, 11, 12] (by decide) rfl rfl (fun H locs hP hD hS => ?_)
        cases hok
        subst hQe; exact W.iret hx hb hr (fun t ht hW => ⟨⟨_, (), rfl, rfl, by rw [ht]; exact hP, va_K.moved hW.alike hK, hD⟩, hS.F ht⟩) hS.2.2 dX8_when_103
      · have hok := k_neg c60 hok
        refine lv_aload_n hx hb dX8_when_63 rfl (lv_at hl 0 rfl) ?_
        refine va_get (D := D) (ci := 7) (v := .ref (qN 2)) (C := RX8) (T := TX8) (N := 9) hx hb ht0 niX8 hown hK hP 0 rfl rfl 2 (by decide) (ht0 _ wd578) (fun _ h9 => h9) rfl dX8_when_64 ?_
        refine lv_iload_n hx hb dX8_when_67 rfl (lv_at hl 1 rfl) ?_
        obtain ⟨r68, hc68, hok⟩ := k_bind hok
        refine kCi (wc := (wX6_cellOf cy (qN 2) qW aH vW_55 vW_cells_55)) (wc2 := (wX6_cellOf cy (qN 2) qW aH vW_55 vW_cells_55)) (wr := [(aN, oX8 vN qN aH), (aH, oX4 vH qH), (qH 9, rI cy 4 vH_places), (qN 1, oX1 vD qD), (qD 0, rI cy 9 vD_now), (qW 1, rI cy 36 vW_who_55), (qH 14, rI cy 7 vH_kinds), (qH 8, rI cy 4 vH_sorts), (qH 10, rI cy 36 vH_next), (qW 2, rI cy 7 vW_inFront_55), (qH 15, rI cy 7 vH_sizes), (qH 11, rI cy 36 vH_width)]) (ws2 := (wX8_when cy aN qN aH qH qW aH qD vN vH vH_places vW_55 vD vD_now vW_who_55 vH_kinds vW_cells_55 vH_sorts vH_next vW_inFront_55 vH_sizes vH_width)) (kRunV (As := [.int x1]) (rest := []) ⟨hx, hb, hml, hown, ht0⟩ (kX6_cellOf l D cy _ (qN 2) qW aH vW_55 vW_cells_55 x1 r68 hc68 _ rfl) (cwV 1 ht0 (gV wd594 wd163 wd164 wd114 wd165) rfl rfl rfl (by decide +kernel) ⟨Nat.le_of_ble_eq_true rfl, Nat.le_of_ble_eq_true rfl⟩) hK hN hP hD [3, 8] rfl (by decide) 3 5 rfl rfl rfl hl.1 rfl (Nat.le_of_ble_eq_true rfl) dX8_when_68 ⟨Nat.zero_le _, Nat.zero_le _⟩) hP hD hS hA [3, 8] [0, 1, 2, 4, 5, 6, 7, 9, 10, 11, 12, 13] rfl rfl (by decide) (by decide) [0, 1, 2, 12, 3, 4, 5, 6, 13, 7, 8, 9, 10, 11] (by decide) rfl rfl (fun H locs hP hD hS => ?_)
        refine lv_iload hx hb dX8_when_71 (lv_at hl 2 rfl) ?_
        refine lv_icmp_ne (tgt := 83) hx hb dX8_when_73 (by decide) (fun c73 => ?_) (fun c73 => ?_)
        · have hok := k_neg c73 hok
          refine lv_aload_n hx hb dX8_when_83 rfl (lv_at hl 0 rfl) ?_
          refine va_get (D := D) (ci := 7) (v := .ref (qN 2)) (C := RX8) (T := TX8) (N := 9) hx hb ht0 niX8 hown hK hP 0 rfl rfl 2 (by decide) (ht0 _ wd578) (fun _ h9 => h9) rfl dX8_when_84 ?_
          refine lv_iconst (v := 0) hx hb dX8_when_87 (by decide) ?_
          obtain ⟨⟨vW_88, vW_cells_88, vW_who_88, vW_inFront_88⟩, hc88, hok⟩ := k_bind hok
          try dsimp only at hok
          refine kCv (wc := (wX6_pass cy (qN 2) qW aH qH vW_55 vH vW_cells_55 vH_next vW_who_55 vW_inFront_55 vH_sizes vH_width vH_kinds)) (wc2 := (wX6_pass cy (qN 2) qW aH qH vW_88 vH vW_cells_88 vH_next vW_who_88 vW_inFront_88 vH_sizes vH_width vH_kinds)) (wr := [(aN, oX8 vN qN aH), (qH 9, rI cy 4 vH_places), (qN 1, oX1 vD qD), (qD 0, rI cy 9 vD_now), (qH 8, rI cy 4 vH_sorts)]) (ws2 := (wX8_when cy aN qN aH qH qW aH qD vN vH vH_places vW_88 vD vD_now vW_who_88 vH_kinds vW_cells_88 vH_sorts vH_next vW_inFront_88 vH_sizes vH_width)) (kRunV (As := [.int 0]) (rest := []) ⟨hx, hb, hml, hown, ht0⟩ (kX6_pass l D cy _ (qN 2) qW aH qH vW_55 vH vW_cells_55 vH_next vW_who_55 vW_inFront_55 vH_sizes vH_width vH_kinds (0 : Int32) vW_88 vW_cells_88 vW_who_88 vW_inFront_88 hc88 _ rfl) (cwV 1 ht0 (gV wd598 wd155 wd156 wd114 wd157) rfl rfl rfl (by decide +kernel) ⟨Nat.le_of_ble_eq_true rfl, Nat.le_of_ble_eq_true rfl⟩) hK hN hP hD [3, 1, 8, 10, 6, 11, 12, 13, 7] rfl (by decide) 3 5 rfl rfl rfl hl.1 rfl (Nat.le_of_ble_eq_true rfl) dX8_when_88 ⟨Nat.zero_le _, Nat.zero_le _⟩) hP hD hS hA [3, 1, 8, 10, 6, 11, 12, 13, 7] [0, 2, 4, 5, 9] rfl rfl (by decide) (by decide) [0, 6, 1, 5, 2, 3, 9, 13, 7, 4, 8, 10, 11, 12] (by decide) rfl rfl (fun H locs hP hD hS => ?_)
          refine lv_iinc (v := (y5_55 + 1)) (lv' := [(5, .int (y5_55 + 1)), (0, .ref aN), (1, .int x1), (4, .int y4_55)]) hx hb dX8_when_91 hl (k := 3) rfl (by first | rfl | decide) (by decide) rfl (fun ls hl => ?_)
          refine lv_goto (tgt := 55) hx hb dX8_when_94 (by decide) ?_
          exact ih55 y4_55 (y5_55 + 1) vW_cells_88 vW_inFront_88 vW_who_88 vW_88 H locs ls hP hD hS (lv_sub hl [1, 2, 3, 0] rfl) (hR55 _ (Option.some.inj hok).symm)
        · have hok := k_pos c73 hok
          obtain ⟨e55, hok, he55⟩ := ex_some hok
          have hok := hok.trans (congrArg some (hL55 _ he55))
          refine lv_aload_n hx hb dX8_when_76 rfl (lv_at hl 0 rfl) ?_
          refine lv_iload hx hb dX8_when_77 (lv_at hl 3 rfl) ?_
          obtain ⟨⟨r79, vN_79⟩, hc79, hok⟩ := k_bind hok
          try dsimp only at hok
          refine kCi (wc := (wX8_answer cy aN qN aH vN)) (wc2 := (wX8_answer cy aN qN aH vN_79)) (wr := [(aH, oX4 vH qH), (qH 9, rI cy 4 vH_places), (qN 2, oX6 vW_55 qW aH), (qN 1, oX1 vD qD), (qD 0, rI cy 9 vD_now), (qW 1, rI cy 36 vW_who_55), (qH 14, rI cy 7 vH_kinds), (qW 0, rI cy 7 vW_cells_55), (qH 8, rI cy 4 vH_sorts), (qH 10, rI cy 36 vH_next), (qW 2, rI cy 7 vW_inFront_55), (qH 15, rI cy 7 vH_sizes), (qH 11, rI cy 36 vH_width)]) (ws2 := (wX8_when cy aN qN aH qH qW aH qD vN_79 vH vH_places vW_55 vD vD_now vW_who_55 vH_kinds vW_cells_55 vH_sorts vH_next vW_inFront_55 vH_sizes vH_width)) (kRunV (As := [.int y5_55]) (rest := []) ⟨hx, hb, hml, hown, ht0⟩ (kX8_answer l D cy _ aN qN aH vN y5_55 r79 vN_79 hc79 _ rfl) (cwV 1 ht0 (gV wd538 wd539 wd540 wd57 wd541) rfl rfl rfl (by decide +kernel) ⟨Nat.le_of_ble_eq_true rfl, Nat.le_of_ble_eq_true rfl⟩) hK hN hP hD [0] rfl (by decide) 0 7 rfl rfl rfl hl.1 rfl (Nat.le_of_ble_eq_true rfl) dX8_when_79 ⟨Nat.zero_le _, Nat.zero_le _⟩) hP hD hS hA [0] [1, 2, 3, 4, 5, 6, 7, 8, 9, 10, 11, 12, 13] rfl rfl (by decide) (by decide) [13, 0, 1, 2, 3, 4, 5, 6, 7, 8, 9, 10, 11, 12] (by decide) rfl rfl (fun H locs hP hD hS => ?_)
          cases hok
          subst hQe; exact W.iret hx hb hr (fun t ht hW => ⟨⟨_, (), rfl, rfl, by rw [ht]; exact hP, va_K.moved hW.alike hK, hD⟩, hS.F ht⟩) hS.2.2 dX8_when_82
  have J23 : ∀ (H : Heap) (locs : List Loc) (ls : Array Slot), va_P D vwCl (wX8_when cy aN qN aH qH qW aH0 qD vN vH vH_places vW vD vD_now vW_who vH_kinds vW_cells vH_sorts vH_next vW_inFront vH_sizes vH_width) H → va_D A (wX8_when cy aN qN aH qH qW aH0 qD vN vH vH_places vW vD vD_now vW_who vH_kinds vW_cells vH_sorts vH_next vW_inFront vH_sizes vH_width) → va_S A s.heap H locs → lv_has ls 6 [(0, .ref aN)] → fX8_when_J23 aH0 vN vW vW_who vW_cells vW_inFront = some (zr, z_vN, z_vW, z_vW_who, z_vW_cells, z_vW_inFront, z_aH0) → W p l e ({ frames := 3, cells := 0, slots := 0, locals := 73 } : Room) s m ([.ref aN, .int x1, .int x2, .int x3] : List Value).toArray below meth c H locs 0 0 Q (F0 m 23 ls []) := by
    intro  H locs ls hP hD hS hl hok
    unfold fX8_when_J23 at hok
    refine lv_aload_n hx hb dX8_when_23 rfl (lv_at hl 0 rfl) ?_
    refine lv_iconst (v := 1) hx hb dX8_when_24 (by decide) ?_
    obtain ⟨⟨r25, vN_25⟩, hc25, hok⟩ := k_bind hok
    try dsimp only at hok
    refine kCi (wc := (wX8_refuse cy aN qN aH vN)) (wc2 := (wX8_refuse cy aN qN aH vN_25)) (wr := [(aH, oX4 vH qH), (qH 9, rI cy 4 vH_places), (qN 2, oX6 vW qW aH0), (qN 1, oX1 vD qD), (qD 0, rI cy 9 vD_now), (qW 1, rI cy 36 vW_who), (qH 14, rI cy 7 vH_kinds), (qW 0, rI cy 7 vW_cells), (qH 8, rI cy 4 vH_sorts), (qH 10, rI cy 36 vH_next), (qW 2, rI cy 7 vW_inFront), (qH 15, rI cy 7 vH_sizes), (qH 11, rI cy 36 vH_width)]) (ws2 := (wX8_when cy aN qN aH qH qW aH0 qD vN_25 vH vH_places vW vD vD_now vW_who vH_kinds vW_cells vH_sorts vH_next vW_inFront vH_sizes vH_width)) (kRunV (As := [.int 1]) (rest := []) ⟨hx, hb, hml, hown, ht0⟩ (kX8_refuse l D cy _ aN qN aH vN (1 : Int32) r25 vN_25 hc25 _ rfl) (cwV 1 ht0 (gV wd504 wd505 wd506 wd57 wd507) rfl rfl rfl (by decide +kernel) ⟨Nat.le_of_ble_eq_true rfl, Nat.le_of_ble_eq_true rfl⟩) hK hN hP hD [0] rfl (by decide) 0 7 rfl rfl rfl hl.1 rfl (Nat.le_of_ble_eq_true rfl) dX8_when_25 ⟨Nat.zero_le _, Nat.zero_le _⟩) hP hD hS hA [0] [1, 2, 3, 4, 5, 6, 7, 8, 9, 10, 11, 12, 13] rfl rfl (by decide) (by decide) [13, 0, 1, 2, 3, 4, 5, 6, 7, 8, 9, 10, 11, 12] (by decide) rfl rfl (fun H locs hP hD hS => ?_)
    cases hok
    subst hQe; exact W.iret hx hb hr (fun t ht hW => ⟨⟨_, (), rfl, rfl, by rw [ht]; exact hP, va_K.moved hW.alike hK, hD⟩, hS.F ht⟩) hS.2.2 dX8_when_28
  unfold fX8_when at hok
  obtain ⟨H, hH⟩ : ∃ H, H = s.heap := ⟨_, rfl⟩
  obtain ⟨locs, hlc⟩ : ∃ x : List Loc, x = [] := ⟨_, rfl⟩
  have hP : va_P D vwCl (wX8_when cy aN qN aH qH qW aH0 qD vN vH vH_places vW vD vD_now vW_who vH_kinds vW_cells vH_sorts vH_next vW_inFront vH_sizes vH_width) H := by rw [hH]; exact hP
  have hS : va_S A s.heap H locs := by rw [hH, hlc]; exact hS
  rw [show W p l e _ s m _ below meth c s.heap [] = W p l e _ s m _ below meth c H locs from by rw [hH, hlc]]
  refine lv_aload_n hx hb dX8_when_0 rfl (lv_at hl 0 rfl) ?_
  refine va_get (D := D) (ci := 7) (v := .ref aH) (C := RX8) (T := TX8) (N := 9) hx hb ht0 niX8 hown hK hP 0 rfl rfl 5 (by decide) (ht0 _ wd522) (fun _ h9 => h9) rfl dX8_when_1 ?_
  refine lv_iload_n hx hb dX8_when_4 rfl (lv_at hl 1 rfl) ?_
  obtain ⟨r5, hc5, hok⟩ := k_bind hok
  refine kCi (wc := (wX4_hasThing cy aH qH vH)) (wc2 := (wX4_hasThing cy aH qH vH)) (wr := [(aN, oX8 vN qN aH), (qH 9, rI cy 4 vH_places), (qN 2, oX6 vW qW aH0), (qN 1, oX1 vD qD), (qD 0, rI cy 9 vD_now), (qW 1, rI cy 36 vW_who), (qH 14, rI cy 7 vH_kinds), (qW 0, rI cy 7 vW_cells), (qH 8, rI cy 4 vH_sorts), (qH 10, rI cy 36 vH_next), (qW 2, rI cy 7 vW_inFront), (qH 15, rI cy 7 vH_sizes), (qH 11, rI cy 36 vH_width)]) (ws2 := (wX8_when cy aN qN aH qH qW aH0 qD vN vH vH_places vW vD vD_now vW_who vH_kinds vW_cells vH_sorts vH_next vW_inFront vH_sizes vH_width)) (kRunV (As := [.int x1]) (rest := []) ⟨hx, hb, hml, hown, ht0⟩ (kX4_hasThing l D cy _ aH qH vH x1 r5 hc5 _ rfl) (cwV 1 ht0 (gV wd551 wd552 wd553 wd9 wd554) rfl rfl rfl (by decide +kernel) ⟨Nat.le_of_ble_eq_true rfl, Nat.le_of_ble_eq_true rfl⟩) hK hN hP hD [1] rfl (by decide) 1 3 rfl rfl rfl hl.1 rfl (Nat.le_of_ble_eq_true rfl) dX8_when_5 ⟨Nat.zero_le _, Nat.zero_le _⟩) hP hD hS hA [1] [0, 2, 3, 4, 5, 6, 7, 8, 9, 10, 11, 12, 13] rfl rfl (by decide) (by decide) [0, 13, 1, 2, 3, 4, 5, 6, 7, 8, 9, 10, 11, 12] (by decide) rfl rfl (fun H locs hP hD hS => ?_)
  refine lv_if_eq (tgt := 23) hx hb dX8_when_8 (by decide) (fun c8 => ?_) (fun c8 => ?_)
  · have hok := k_pos c8 hok
    exact J23  H locs ls hP hD hS (lv_sub hl [0] rfl) hok
  · have hok := k_neg c8 hok
    refine lv_aload_n hx hb dX8_when_11 rfl (lv_at hl 0 rfl) ?_
    refine va_get (D := D) (ci := 7) (v := .ref aH) (C := RX8) (T := TX8) (N := 9) hx hb ht0 niX8 hown hK hP 0 rfl rfl 5 (by decide) (ht0 _ wd522) (fun _ h9 => h9) rfl dX8_when_12 ?_
    refine lv_iload_n hx hb dX8_when_15 rfl (lv_at hl 2 rfl) ?_
    refine lv_iload_n hx hb dX8_when_16 rfl (lv_at hl 3 rfl) ?_
    obtain ⟨r17, hc17, hok⟩ := k_bind hok
    refine kCi (wc := (wX4_hasPlace cy aH qH vH vH_places)) (wc2 := (wX4_hasPlace cy aH qH vH vH_places)) (wr := [(aN, oX8 vN qN aH), (qN 2, oX6 vW qW aH0), (qN 1, oX1 vD qD), (qD 0, rI cy 9 vD_now), (qW 1, rI cy 36 vW_who), (qH 14, rI cy 7 vH_kinds), (qW 0, rI cy 7 vW_cells), (qH 8, rI cy 4 vH_sorts), (qH 10, rI cy 36 vH_next), (qW 2, rI cy 7 vW_inFront), (qH 15, rI cy 7 vH_sizes), (qH 11, rI cy 36 vH_width)]) (ws2 := (wX8_when cy aN qN aH qH qW aH0 qD vN vH vH_places vW vD vD_now vW_who vH_kinds vW_cells vH_sorts vH_next vW_inFront vH_sizes vH_width)) (kRunV (As := [.int x2, .int x3]) (rest := []) ⟨hx, hb, hml, hown, ht0⟩ (kX4_hasPlace l D cy _ aH qH vH vH_places x2 x3 r17 hc17 _ rfl) (cwV 2 ht0 (gV wd566 wd567 wd568 wd9 wd569) rfl rfl rfl (by decide +kernel) ⟨Nat.le_of_ble_eq_true rfl, Nat.le_of_ble_eq_true rfl⟩) hK hN hP hD [1, 2] rfl (by decide) 1 3 rfl rfl rfl hl.1 rfl (Nat.le_of_ble_eq_true rfl) dX8_when_17 ⟨Nat.zero_le _, Nat.zero_le _⟩) hP hD hS hA [1, 2] [0, 3, 4, 5, 6, 7, 8, 9, 10, 11, 12, 13] rfl rfl (by decide) (by decide) [0, 12, 13, 1, 2, 3, 4, 5, 6, 7, 8, 9, 10, 11] (by decide) rfl rfl (fun H locs hP hD hS => ?_)
    refine lv_if_ne (tgt := 29) hx hb dX8_when_20 (by decide) (fun c20 => ?_) (fun c20 => ?_)
    · have hok := k_neg c20 hok
      refine lv_iload_n hx hb dX8_when_29 rfl (lv_at hl 2 rfl) ?_
      refine lv_iload_n hx hb dX8_when_30 rfl (lv_at hl 3 rfl) ?_
      obtain ⟨r31, hc31, hok⟩ := k_bind hok
      refine kCi (wc := (wX8_cellAt cy )) (wc2 := (wX8_cellAt cy )) (wr := [(aN, oX8 vN qN aH), (aH, oX4 vH qH), (qH 9, rI cy 4 vH_places), (qN 2, oX6 vW qW aH0), (qN 1, oX1 vD qD), (qD 0, rI cy 9 vD_now), (qW 1, rI cy 36 vW_who), (qH 14, rI cy 7 vH_kinds), (qW 0, rI cy 7 vW_cells), (qH 8, rI cy 4 vH_sorts), (qH 10, rI cy 36 vH_next), (qW 2, rI cy 7 vW_inFront), (qH 15, rI cy 7 vH_sizes), (qH 11, rI cy 36 vH_width)]) (ws2 := (wX8_when cy aN qN aH qH qW aH0 qD vN vH vH_places vW vD vD_now vW_who vH_kinds vW_cells vH_sorts vH_next vW_inFront vH_sizes vH_width)) (kRunS (As := [.int x2, .int x3]) (rest := []) ⟨hx, hb, hml, hown, ht0⟩ (kX8_cellAt l D cy _ x2 x3 r31 hc31 _ rfl) (va_cwS 2 ht0 (gS wd570 wd261 wd57 wd260) rfl rfl rfl (by decide +kernel) ⟨Nat.le_of_ble_eq_true rfl, Nat.le_of_ble_eq_true rfl⟩) hK hN hP hD [] rfl (by decide) rfl hl.1 rfl (Nat.le_of_ble_eq_true rfl) dX8_when_31 ⟨Nat.zero_le _, Nat.zero_le _⟩) hP hD hS hA [] [0, 1, 2, 3, 4, 5, 6, 7, 8, 9, 10, 11, 12, 13] rfl rfl (by decide) (by decide) [0, 1, 2, 3, 4, 5, 6, 7, 8, 9, 10, 11, 12, 13] (by decide) rfl rfl (fun H locs hP hD hS => ?_)
      refine lv_istore (lv' := [(4, .int r31), (0, .ref aN), (1, .int x1), (2, .int x2), (3, .int x3)]) hx hb dX8_when_34 hl (by decide) rfl (fun ls hl => ?_)
      refine lv_aload_n hx hb dX8_when_36 rfl (lv_at hl 1 rfl) ?_
      refine va_get (D := D) (ci := 7) (v := .ref (qN 2)) (C := RX8) (T := TX8) (N := 9) hx hb ht0 niX8 hown hK hP 0 rfl rfl 2 (by decide) (ht0 _ wd578) (fun _ h9 => h9) rfl dX8_when_37 ?_
      refine lv_aload_n hx hb dX8_when_40 rfl (lv_at hl 1 rfl) ?_
      refine va_get (D := D) (ci := 7) (v := .ref aH) (C := RX8) (T := TX8) (N := 9) hx hb ht0 niX8 hown hK hP 0 rfl rfl 5 (by decide) (ht0 _ wd522) (fun _ h9 => h9) rfl dX8_when_41 ?_
      refine lv_aload_n hx hb dX8_when_44 rfl (lv_at hl 1 rfl) ?_
      refine va_get (D := D) (ci := 7) (v := .ref (qN 1)) (C := RX8) (T := TX8) (N := 9) hx hb ht0 niX8 hown hK hP 0 rfl rfl 1 (by decide) (ht0 _ wd527) (fun _ h9 => h9) rfl dX8_when_45 ?_
      refine lv_iconst (v := 0) hx hb dX8_when_48 (by decide) ?_
      obtain ⟨⟨vW_49, vW_who_49, vW_cells_49⟩, hc49, hok⟩ := k_bind hok
      try dsimp only at hok
      refine kCv (wc := (wX6_start cy (qN 2) aH (qN 1) qW aH0 qD qH vW vD vD_now vW_who vH vH_kinds vW_cells vH_sorts)) (wc2 := (wX6_start cy (qN 2) aH (qN 1) qW aH qD qH vW_49 vD vD_now vW_who_49 vH vH_kinds vW_cells_49 vH_sorts)) (wr := [(aN, oX8 vN qN aH), (qH 9, rI cy 4 vH_places), (qH 10, rI cy 36 vH_next), (qW 2, rI cy 7 vW_inFront), (qH 15, rI cy 7 vH_sizes), (qH 11, rI cy 36 vH_width)]) (ws2 := (wX8_when cy aN qN aH qH qW aH qD vN vH vH_places vW_49 vD vD_now vW_who_49 vH_kinds vW_cells_49 vH_sorts vH_next vW_inFront vH_sizes vH_width)) (kRunV (As := [.ref aH, .ref (qN 1), .int 0]) (rest := []) ⟨hx, hb, hml, hown, ht0⟩ (kX6_start l D cy _ (qN 2) aH (qN 1) qW aH0 qD qH vW vD vD_now vW_who vH vH_kinds vW_cells vH_sorts (0 : Int32) vW_49 vW_who_49 vW_cells_49 hc49 _ rfl) (cwV 3 ht0 (gV wd579 wd181 wd182 wd114 wd183) rfl rfl rfl (by decide +kernel) ⟨Nat.le_of_ble_eq_true rfl, Nat.le_of_ble_eq_true rfl⟩) hK hN hP hD [3, 4, 5, 6, 1, 7, 8, 9] rfl (by decide) 3 5 rfl rfl rfl hl.1 rfl (Nat.le_of_ble_eq_true rfl) dX8_when_49 ⟨Nat.zero_le _, Nat.zero_le _⟩) hP hD hS hA [3, 4, 5, 6, 1, 7, 8, 9] [0, 2, 10, 11, 12, 13] rfl rfl (by decide) (by decide) [0, 10, 1, 6, 7, 8, 9, 11, 12, 13, 2, 3, 4, 5] (by decide) rfl rfl (fun H locs hP hD hS => ?_)
      refine lv_iconst (v := 0) hx hb dX8_when_52 (by decide) ?_
      refine lv_istore (lv' := [(5, .int 0), (4, .int r31), (0, .ref aN), (1, .int x1), (2, .int x2), (3, .int x3)]) hx hb dX8_when_53 hl (by decide) rfl (fun ls hl => ?_)
      exact L55 5000 r31 (0 : Int32) vW_cells_49 vW_inFront vW_who_49 vW_49 H locs ls hP hD hS (lv_sub hl [2, 3, 1, 0] rfl) hok
    · have hok := k_pos c20 hok
      exact J23  H locs ls hP hD hS (lv_sub hl [0] rfl) hok
