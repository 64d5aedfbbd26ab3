def wsX5_read : List Cond := .code yX5_read cX5_read 4 (some .boolean) :: W0
abbrev wX5_read (cy : Nat → ClassId) (aR : Nat) (qR : Nat → Nat) (aH : Nat) (qH : Nat → Nat) (qU : Nat → Nat) (fvR_2 : Nat) (vR_j11 : Int64) (vR : Nat → Int32) (vH : Nat → Int32) (vU : Nat → Int32) (vH_next : Nat → Int32) (vH_width : Nat → Int32) (vR_tape : Nat → Int32) (vH_markNights : Nat → Int32) (vH_markPlaces : Nat → Int32) (vH_markFound : Nat → Int32) (vR_thingNames : Nat → Int64) (vR_ringNames : Nat → Int64) (vH_places : Nat → Int32) (vU_things : Nat → Int32) (vU_cells : Nat → Int32) (vU_nights : Nat → Int32) (vU_worths : Nat → Int32) (vH_firstCells : Nat → Int32) (vH_kinds : Nat → Int32) (vH_sizes : Nat → Int32) (vH_doorOne : Nat → Int32) (vH_doorTwo : Nat → Int32) (vH_sorts : Nat → Int32) : va_W := [(aR, oX5 vR qR vR_j11 fvR_2), (aH, oX4 vH qH), (qH 7, oX7 vU qU), (qH 10, rI cy 36 vH_next), (qH 11, rI cy 36 vH_width), (qR 0, rB cy 900 vR_tape), (qH 17, rI cy 6 vH_markNights), (qH 18, rI cy 6 vH_markPlaces), (qH 19, rZ cy 6 vH_markFound), (qR 4, rJ cy 7 vR_thingNames), (qR 3, rJ cy 4 vR_ringNames), (qH 9, rI cy 4 vH_places), (qU 1, rI cy 6 vU_things), (qU 2, rI cy 6 vU_cells), (qU 3, rI cy 6 vU_nights), (qU 4, rI cy 6 vU_worths), (qH 16, rI cy 7 vH_firstCells), (qH 14, rI cy 7 vH_kinds), (qH 15, rI cy 7 vH_sizes), (qH 12, rI cy 5 vH_doorOne), (qH 13, rI cy 5 vH_doorTwo), (qH 8, rI cy 4 vH_sorts)]
set_option maxHeartbeats 4000000 in
set_option maxRecDepth 100000 in
theorem kX5_read (l : Launch) (D : va_G) (cy : Nat → ClassId) (ad : (Nat → Nat) × (Nat → Nat)) (sz : Nat) (aR : Nat) (qR : Nat → Nat) (aH : Nat) (qH : Nat → Nat) (qU : Nat → Nat) (vR_j11 : Int64) (vR : Nat → Int32) (vH : Nat → Int32) (vU : Nat → Int32) (vH_next : Nat → Int32) (vH_width : Nat → Int32) (vR_tape : Nat → Int32) (vH_markNights : Nat → Int32) (vH_markPlaces : Nat → Int32) (vH_markFound : Nat → Int32) (vR_thingNames : Nat → Int64) (vR_ringNames : Nat → Int64) (vH_places : Nat → Int32) (vU_things : Nat → Int32) (vU_cells : Nat → Int32) (vU_nights : Nat → Int32) (vU_worths : Nat → Int32) (vH_firstCells : Nat → Int32) (vH_kinds : Nat → Int32) (vH_sizes : Nat → Int32) (vH_doorOne : Nat → Int32) (vH_doorTwo : Nat → Int32) (vH_sorts : Nat → Int32) (x1 : Int32) (zr : Int32) (z_vR_j11 : Int64) (z_vR : Nat → Int32) (z_vH : Nat → Int32) (z_vU : Nat → Int32) (z_vH_next : Nat → Int32) (z_vH_width : Nat → Int32) (z_vH_markNights : Nat → Int32) (z_vH_markPlaces : Nat → Int32) (z_vH_markFound : Nat → Int32) (z_vR_thingNames : Nat → Int64) (z_vR_ringNames : Nat → Int64) (z_vH_places : Nat → Int32) (z_vU_things : Nat → Int32) (z_vU_cells : Nat → Int32) (z_vU_nights : Nat → Int32) (z_vU_worths : Nat → Int32) (z_vH_firstCells : Nat → Int32) (z_vH_kinds : Nat → Int32) (z_vH_sizes : Nat → Int32) (z_vH_doorOne : Nat → Int32) (z_vH_doorTwo : Nat → Int32) (z_vH_sorts : Nat → Int32) (hok : fX5_read vR_j11 vR vH vU vH_next vH_width vR_tape vH_markNights vH_markPlaces vH_markFound vR_thingNames vR_ringNames vH_places vU_things vU_cells vU_nights vU_worths vH_firstCells vH_kinds vH_sizes vH_doorOne vH_doorTwo vH_sorts x1 = some (zr, z_vR_j11, z_vR, z_vH, z_vU, z_vH_next, z_vH_width, z_vH_markNights, z_vH_markPlaces, z_vH_markFound, z_vR_thingNames, z_vR_ringNames, z_vH_places, z_vU_things, z_vU_cells, z_vU_nights, z_vU_worths, z_vH_firstCells, z_vH_kinds, z_vH_sizes, z_vH_doorOne, z_vH_doorTwo, z_vH_sorts)) (A : Nat → Prop) (hAe : va_A (wX5_read cy aR qR aH qH qU aH vR_j11 vR vH vU vH_next vH_width vR_tape vH_markNights vH_markPlaces vH_markFound vR_thingNames vR_ringNames vH_places vU_things vU_cells vU_nights vU_worths vH_firstCells vH_kinds vH_sizes vH_doorOne vH_doorTwo vH_sorts) sz = A) : Met l yX5_read wsX5_read ({ frames := 9, cells := 0, slots := 0, locals := 199 } : Room) (kPreS D cy ad [.ref aR, .int x1] (wX5_read cy aR qR aH qH qU aH vR_j11 vR vH vU vH_next vH_width vR_tape vH_markNights vH_markPlaces vH_markFound vR_thingNames vR_ringNames vH_places vU_things vU_cells vU_nights vU_worths vH_firstCells vH_kinds vH_sizes vH_doorOne vH_doorTwo vH_sorts) sz A) (kQi D cy zr A (wX5_read cy aR qR aH qH qU aH z_vR_j11 z_vR z_vH z_vU z_vH_next z_vH_width vR_tape z_vH_markNights z_vH_markPlaces z_vH_markFound z_vR_thingNames z_vR_ringNames z_vH_places z_vU_things z_vU_cells z_vU_nights z_vU_worths z_vH_firstCells z_vH_kinds z_vH_sizes z_vH_doorOne z_vH_doorTwo z_vH_sorts)) 0 0 A := by
  refine Met.ofW (cc := cX5_read) (maxL := 4) (ret := (some .boolean)) (by decide) rfl ?_
  intro p e s m args below meth c s₁ B hml hv
  obtain ⟨rfl, ⟨hsz, hP, hK, hD0, hN⟩, hSt⟩ := hv
  have hx := B.exec
  have hb := B.bytes
  have hr := B.returns
  have ht0 : ∀ w ∈ W0, w.before _ s = true := fun w h => atoms_spec (ws := wsX5_read) B.pre w (List.mem_cons_of_mem _ h)
  have hown : s.vm.findClass RX5 = some m.cls := findClass_of_methodNamed B.named
  have hlocks := B.notSynchronized
  subst hsz
  have hD : va_D A (wX5_read cy aR qR aH qH qU aH vR_j11 vR vH vU vH_next vH_width vR_tape vH_markNights vH_markPlaces vH_markFound vR_thingNames vR_ringNames vH_places vU_things vU_cells vU_nights vU_worths vH_firstCells vH_kinds vH_sizes vH_doorOne vH_doorTwo vH_sorts) := by rw [← hAe]; exact hD0.self
  have hA : ∀ q : Nat, s.heap.size ≤ q → A q := fun q h => by rw [← hAe]; exact Or.inr h
  have hS : va_S A s.heap s.heap [] := va_S.rf
  have hl := lv_entry ([.ref aR, .int x1]) (n := 4) (Nat.le_of_ble_eq_true rfl)
  rw [lg_entry_eq]
  generalize (lg_sl ([.ref aR, .int x1]) ++ List.replicate (4 - (lg_sl ([.ref aR, .int x1])).length) Slot.unset).toArray = ls at hl ⊢
  have hl : lv_has ls 4 [(0, .ref aR), (1, .int x1)] := hl
  generalize hQe : MQ below (kQi D cy zr A (wX5_read cy aR qR aH qH qU aH z_vR_j11 z_vR z_vH z_vU z_vH_next z_vH_width vR_tape z_vH_markNights z_vH_markPlaces z_vH_markFound z_vR_thingNames z_vR_ringNames z_vH_places z_vU_things z_vU_cells z_vU_nights z_vU_worths z_vH_firstCells z_vH_kinds z_vH_sizes z_vH_doorOne z_vH_doorTwo z_vH_sorts)) ([.ref aR, .int x1] : List Value).toArray s 0 0 A = Q
  have J120 : ∀ (t0_120 : Int32) (vH_doorOne_120 : Nat → Int32) (vH_doorTwo_120 : Nat → Int32) (vH_firstCells_120 : Nat → Int32) (vH_kinds_120 : Nat → Int32) (vH_markFound_120 : Nat → Int32) (vH_markNights_120 : Nat → Int32) (vH_markPlaces_120 : Nat → Int32) (vH_next_120 : Nat → Int32) (vH_places_120 : Nat → Int32) (vH_sizes_120 : Nat → Int32) (vH_sorts_120 : Nat → Int32) (vH_width_120 : Nat → Int32) (vR_ringNames_120 : Nat → Int64) (vR_thingNames_120 : Nat → Int64) (vU_cells_120 : Nat → Int32) (vU_nights_120 : Nat → Int32) (vU_things_120 : Nat → Int32) (vU_worths_120 : Nat → Int32) (vR_11_120 : Int64) (vH_120 : Nat → Int32) (vR_120 : Nat → Int32) (vU_120 : Nat → Int32), ∀ (H : Heap) (locs : List Loc) (ls : Array Slot), va_P D vwCl (wX5_read cy aR qR aH qH qU aH vR_11_120 vR_120 vH_120 vU_120 vH_next_120 vH_width_120 vR_tape vH_markNights_120 vH_markPlaces_120 vH_markFound_120 vR_thingNames_120 vR_ringNames_120 vH_places_120 vU_things_120 vU_cells_120 vU_nights_120 vU_worths_120 vH_firstCells_120 vH_kinds_120 vH_sizes_120 vH_doorOne_120 vH_doorTwo_120 vH_sorts_120) H → va_D A (wX5_read cy aR qR aH qH qU aH vR_11_120 vR_120 vH_120 vU_120 vH_next_120 vH_width_120 vR_tape vH_markNights_120 vH_markPlaces_120 vH_markFound_120 vR_thingNames_120 vR_ringNames_120 vH_places_120 vU_things_120 vU_cells_120 vU_nights_120 vU_worths_120 vH_firstCells_120 vH_kinds_120 vH_sizes_120 vH_doorOne_120 vH_doorTwo_120 vH_sorts_120) → va_S A s.heap H locs → lv_has ls 4 [] → fX5_read_J120 t0_120 vH_doorOne_120 vH_doorTwo_120 vH_firstCells_120 vH_kinds_120 vH_markFound_120 vH_markNights_120 vH_markPlaces_120 vH_next_120 vH_places_120 vH_sizes_120 vH_sorts_120 vH_width_120 vR_ringNames_120 vR_thingNames_120 vU_cells_120 vU_nights_120 vU_things_120 vU_worths_120 vR_11_120 vH_120 vR_120 vU_120 = some (zr, z_vR_j11, z_vR, z_vH, z_vU, z_vH_next, z_vH_width, z_vH_markNights, z_vH_markPlaces, z_vH_markFound, z_vR_thingNames, z_vR_ringNames, z_vH_places, z_vU_things, z_vU_cells, z_vU_nights, z_vU_worths, z_vH_firstCells, z_vH_kinds, z_vH_sizes, z_vH_doorOne, z_vH_doorTwo, z_vH_sorts) → W p l e ({ frames := 9, cells := 0, slots := 0, locals := 199 } : Room) s m ([.ref aR, .int x1] : List Value).toArray below meth c H locs 0 0 Q (F0 m 120 ls [.int t0_120]) := by
    intro t0_120 vH_doorOne_120 vH_doorTwo_120 vH_firstCells_120 vH_kinds_120 vH_markFound_120 vH_markNights_120 vH_markPlaces_120 vH_next_120 vH_places_120 vH_sizes_120 vH_sorts_120 vH_width_120 vR_ringNames_120 vR_thingNames_120 vU_cells_120 vU_nights_120 vU_things_120 vU_worths_120 vR_11_120 vH_120 vR_120 vU_120 H locs ls hP hD hS hl hok
    unfold fX5_read_J120 at hok
    obtain ⟨g120, hok⟩ := gd_some hok
    cases hok
    subst hQe; exact W.zret hx hb hr (isB_nar g120) (fun t ht hW => ⟨⟨_, (), rfl, rfl, by rw [ht]; exact hP, va_K.moved hW.alike hK, hD⟩, hS.F ht⟩) hS.2.2 dX5_read_120
  have J115 : ∀ (vH_doorOne_115 : Nat → Int32) (vH_doorTwo_115 : Nat → Int32) (vH_firstCells_115 : Nat → Int32) (vH_kinds_115 : Nat → Int32) (vH_markFound_115 : Nat → Int32) (vH_markNights_115 : Nat → Int32) (vH_markPlaces_115 : Nat → Int32) (vH_next_115 : Nat → Int32) (vH_places_115 : Nat → Int32) (vH_sizes_115 : Nat → Int32) (vH_sorts_115 : Nat → Int32) (vH_width_115 : Nat → Int32) (vR_ringNames_115 : Nat → Int64) (vR_thingNames_115 : Nat → Int64) (vU_cells_115 : Nat → Int32) (vU_nights_115 : Nat → Int32) (vU_things_115 : Nat → Int32) (vU_worths_115 : Nat → Int32) (vR_11_115 : Int64) (vH_115 : Nat → Int32) (vR_115 : Nat → Int32) (vU_115 : Nat → Int32), ∀ (H : Heap) (locs : List Loc) (ls : Array Slot), va_P D vwCl (wX5_read cy aR qR aH qH qU aH vR_11_115 vR_115 vH_115 vU_115 vH_next_115 vH_width_115 vR_tape vH_markNights_115 vH_markPlaces_115 vH_markFound_115 vR_thingNames_115 vR_ringNames_115 vH_places_115 vU_things_115 vU_cells_115 vU_nights_115 vU_worths_115 vH_firstCells_115 vH_kinds_115 vH_sizes_115 vH_doorOne_115 vH_doorTwo_115 vH_sorts_115) H → va_D A (wX5_read cy aR qR aH qH qU aH vR_11_115 vR_115 vH_115 vU_115 vH_next_115 vH_width_115 vR_tape vH_markNights_115 vH_markPlaces_115 vH_markFound_115 vR_thingNames_115 vR_ringNames_115 vH_places_115 vU_things_115 vU_cells_115 vU_nights_115 vU_worths_115 vH_firstCells_115 vH_kinds_115 vH_sizes_115 vH_doorOne_115 vH_doorTwo_115 vH_sorts_115) → va_S A s.heap H locs → lv_has ls 4 [] → fX5_read_J115 vH_doorOne_115 vH_doorTwo_115 vH_firstCells_115 vH_kinds_115 vH_markFound_115 vH_markNights_115 vH_markPlaces_115 vH_next_115 vH_places_115 vH_sizes_115 vH_sorts_115 vH_width_115 vR_ringNames_115 vR_thingNames_115 vU_cells_115 vU_nights_115 vU_things_115 vU_worths_115 vR_11_115 vH_115 vR_115 vU_115 = some (zr, z_vR_j11, z_vR, z_vH, z_vU, z_vH_next, z_vH_width, z_vH_markNights, z_vH_markPlaces, z_vH_markFound, z_vR_thingNames, z_vR_ringNames, z_vH_places, z_vU_things, z_vU_cells, z_vU_nights, z_vU_worths, z_vH_firstCells, z_vH_kinds, z_vH_sizes, z_vH_doorOne, z_vH_doorTwo, z_vH_sorts) → W p l e ({ frames := 9, cells := 0, slots := 0, locals := 199 } : Room) s m ([.ref aR, .int x1] : List Value).toArray below meth c H locs 0 0 Q (F0 m 115 ls []) := by
    intro vH_doorOne_115 vH_doorTwo_115 vH_firstCells_115 vH_kinds_115 vH_markFound_115 vH_markNights_115 vH_markPlaces_115 vH_next_115 vH_places_115 vH_sizes_115 vH_sorts_115 vH_width_115 vR_ringNames_115 vR_thingNames_115 vU_cells_115 vU_nights_115 vU_things_115 vU_worths_115 vR_11_115 vH_115 vR_115 vU_115 H locs ls hP hD hS hl hok
    unfold fX5_read_J115 at hok
    refine lv_iconst (v := 1) hx hb dX5_read_115 (by decide) ?_
    refine lv_goto (tgt := 120) hx hb dX5_read_116 (by decide) ?_
    exact J120 (1 : Int32) vH_doorOne_115 vH_doorTwo_115 vH_firstCells_115 vH_kinds_115 vH_markFound_115 vH_markNights_115 vH_markPlaces_115 vH_next_115 vH_places_115 vH_sizes_115 vH_sorts_115 vH_width_115 vR_ringNames_115 vR_thingNames_115 vU_cells_115 vU_nights_115 vU_things_115 vU_worths_115 vR_11_115 vH_115 vR_115 vU_115 H locs ls hP hD hS (lv_sub hl [] rfl) hok
  have J77 : ∀ (y2_77 : Int32) (vH_doorOne_77 : Nat → Int32) (vH_doorTwo_77 : Nat → Int32) (vH_firstCells_77 : Nat → Int32) (vH_kinds_77 : Nat → Int32) (vH_markFound_77 : Nat → Int32) (vH_markNights_77 : Nat → Int32) (vH_markPlaces_77 : Nat → Int32) (vH_next_77 : Nat → Int32) (vH_places_77 : Nat → Int32) (vH_sizes_77 : Nat → Int32) (vH_sorts_77 : Nat → Int32) (vH_width_77 : Nat → Int32) (vR_ringNames_77 : Nat → Int64) (vR_thingNames_77 : Nat → Int64) (vU_cells_77 : Nat → Int32) (vU_nights_77 : Nat → Int32) (vU_things_77 : Nat → Int32) (vU_worths_77 : Nat → Int32) (vR_11_77 : Int64) (vH_77 : Nat → Int32) (vR_77 : Nat → Int32) (vU_77 : Nat → Int32), ∀ (H : Heap) (locs : List Loc) (ls : Array Slot), va_P D vwCl (wX5_read cy aR qR aH qH qU aH vR_11_77 vR_77 vH_77 vU_77 vH_next_77 vH_width_77 vR_tape vH_markNights_77 vH_markPlaces_77 vH_markFound_77 vR_thingNames_77 vR_ringNames_77 vH_places_77 vU_things_77 vU_cells_77 vU_nights_77 vU_worths_77 vH_firstCells_77 vH_kinds_77 vH_sizes_77 vH_doorOne_77 vH_doorTwo_77 vH_sorts_77) H → va_D A (wX5_read cy aR qR aH qH qU aH vR_11_77 vR_77 vH_77 vU_77 vH_next_77 vH_width_77 vR_tape vH_markNights_77 vH_markPlaces_77 vH_markFound_77 vR_thingNames_77 vR_ringNames_77 vH_places_77 vU_things_77 vU_cells_77 vU_nights_77 vU_worths_77 vH_firstCells_77 vH_kinds_77 vH_sizes_77 vH_doorOne_77 vH_doorTwo_77 vH_sorts_77) → va_S A s.heap H locs → lv_has ls 4 [(0, .ref aR), (2, .int y2_77)] → fX5_read_J77 y2_77 vH_doorOne_77 vH_doorTwo_77 vH_firstCells_77 vH_kinds_77 vH_markFound_77 vH_markNights_77 vH_markPlaces_77 vH_next_77 vH_places_77 vH_sizes_77 vH_sorts_77 vH_width_77 vR_ringNames_77 vR_thingNames_77 vU_cells_77 vU_nights_77 vU_things_77 vU_worths_77 vR_11_77 vH_77 vR_77 vU_77 = some (zr, z_vR_j11, z_vR, z_vH, z_vU, z_vH_next, z_vH_width, z_vH_markNights, z_vH_markPlaces, z_vH_markFound, z_vR_thingNames, z_vR_ringNames, z_vH_places, z_vU_things, z_vU_cells, z_vU_nights, z_vU_worths, z_vH_firstCells, z_vH_kinds, z_vH_sizes, z_vH_doorOne, z_vH_doorTwo, z_vH_sorts) → W p l e ({ frames := 9, cells := 0, slots := 0, locals := 199 } : Room) s m ([.ref aR, .int x1] : List Value).toArray below meth c H locs 0 0 Q (F0 m 77 ls []) := by
    intro y2_77 vH_doorOne_77 vH_doorTwo_77 vH_firstCells_77 vH_kinds_77 vH_markFound_77 vH_markNights_77 vH_markPlaces_77 vH_next_77 vH_places_77 vH_sizes_77 vH_sorts_77 vH_width_77 vR_ringNames_77 vR_thingNames_77 vU_cells_77 vU_nights_77 vU_things_77 vU_worths_77 vR_11_77 vH_77 vR_77 vU_77 H locs ls hP hD hS hl hok
    unfold fX5_read_J77 at hok
    refine lv_iload_n hx hb dX5_read_77 rfl (lv_at hl 1 rfl) ?_
    refine lv_if_ne (tgt := 83) hx hb dX5_read_78 (by decide) (fun c78 => ?_) (fun c78 => ?_)
    · have hok := k_neg c78 hok
      refine lv_aload_n hx hb dX5_read_83 rfl (lv_at hl 0 rfl) ?_
      refine va_get (D := D) (ci := 4) (v := .int (vR_77 7)) (C := RX5) (T := TX5) (N := 13) hx hb ht0 niX5 hown hK hP 0 rfl rfl 7 (by decide) (ht0 _ wd269) (fun _ h9 => h9) rfl dX5_read_84 ?_
      refine lv_if_eq (tgt := 96) hx hb dX5_read_87 (by decide) (fun c87 => ?_) (fun c87 => ?_)
      · have hok := k_pos c87 hok
        refine lv_aload_n hx hb dX5_read_96 rfl (lv_at hl 0 rfl) ?_
        refine va_get (D := D) (ci := 4) (v := .ref aH) (C := RX5) (T := TX5) (N := 13) hx hb ht0 niX5 hown hK hP 0 rfl rfl 2 (by decide) (ht0 _ wd266) (fun _ h9 => h9) rfl dX5_read_97 ?_
        obtain ⟨r100, hc100, hok⟩ := k_bind hok
        refine kCi (wc := (wX4_stands cy aH qH vH_77)) (wc2 := (wX4_stands cy aH qH vH_77)) (wr := [(aR, oX5 vR_77 qR vR_11_77 aH), (qH 7, oX7 vU_77 qU), (qH 10, rI cy 36 vH_next_77), (qH 11, rI cy 36 vH_width_77), (qR 0, rB cy 900 vR_tape), (qH 17, rI cy 6 vH_markNights_77), (qH 18, rI cy 6 vH_markPlaces_77), (qH 19, rZ cy 6 vH_markFound_77), (qR 4, rJ cy 7 vR_thingNames_77), (qR 3, rJ cy 4 vR_ringNames_77), (qH 9, rI cy 4 vH_places_77), (qU 1, rI cy 6 vU_things_77), (qU 2, rI cy 6 vU_cells_77), (qU 3, rI cy 6 vU_nights_77), (qU 4, rI cy 6 vU_worths_77), (qH 16, rI cy 7 vH_firstCells_77), (qH 14, rI cy 7 vH_kinds_77), (qH 15, rI cy 7 vH_sizes_77), (qH 12, rI cy 5 vH_doorOne_77), (qH 13, rI cy 5 vH_doorTwo_77), (qH 8, rI cy 4 vH_sorts_77)]) (ws2 := (wX5_read cy aR qR aH qH qU aH vR_11_77 vR_77 vH_77 vU_77 vH_next_77 vH_width_77 vR_tape vH_markNights_77 vH_markPlaces_77 vH_markFound_77 vR_thingNames_77 vR_ringNames_77 vH_places_77 vU_things_77 vU_cells_77 vU_nights_77 vU_worths_77 vH_firstCells_77 vH_kinds_77 vH_sizes_77 vH_doorOne_77 vH_doorTwo_77 vH_sorts_77)) (kRunV (As := []) (rest := []) ⟨hx, hb, hml, hown, ht0⟩ (kX4_stands l D cy _ aH qH vH_77 r100 hc100 _ rfl) (cwV 0 ht0 (gV wd461 wd462 wd463 wd9 wd464) rfl rfl rfl (by decide +kernel) ⟨Nat.le_of_ble_eq_true rfl, Nat.le_of_ble_eq_true rfl⟩) hK hN hP hD [1] rfl (by decide) 1 3 rfl rfl rfl hl.1 rfl (Nat.le_of_ble_eq_true rfl) dX5_read_100 ⟨Nat.zero_le _, Nat.zero_le _⟩) hP hD hS hA [1] [0, 2, 3, 4, 5, 6, 7, 8, 9, 10, 11, 12, 13, 14, 15, 16, 17, 18, 19, 20, 21] rfl rfl (by decide) (by decide) [0, 21, 1, 2, 3, 4, 5, 6, 7, 8, 9, 10, 11, 12, 13, 14, 15, 16, 17, 18, 19, 20] (by decide) rfl rfl (fun H locs hP hD hS => ?_)
        refine lv_if_ne (tgt := 115) hx hb dX5_read_103 (by decide) (fun c103 => ?_) (fun c103 => ?_)
        · have hok := k_neg c103 hok
          exact J115 vH_doorOne_77 vH_doorTwo_77 vH_firstCells_77 vH_kinds_77 vH_markFound_77 vH_markNights_77 vH_markPlaces_77 vH_next_77 vH_places_77 vH_sizes_77 vH_sorts_77 vH_width_77 vR_ringNames_77 vR_thingNames_77 vU_cells_77 vU_nights_77 vU_things_77 vU_worths_77 vR_11_77 vH_77 vR_77 vU_77 H locs ls hP hD hS (lv_sub hl [] rfl) hok
        · have hok := k_pos c103 hok
          refine lv_aload_n hx hb dX5_read_106 rfl (lv_at hl 0 rfl) ?_
          refine lv_bipush (v := 6) hx hb dX5_read_107 (by decide) ?_
          obtain ⟨⟨r109, vR_109⟩, hc109, hok⟩ := k_bind hok
          try dsimp only at hok
          refine kCi (wc := (wX5_fails cy aR qR aH aH vR_11_77 vR_77)) (wc2 := (wX5_fails cy aR qR aH aH vR_11_77 vR_109)) (wr := [(aH, oX4 vH_77 qH), (qH 7, oX7 vU_77 qU), (qH 10, rI cy 36 vH_next_77), (qH 11, rI cy 36 vH_width_77), (qR 0, rB cy 900 vR_tape), (qH 17, rI cy 6 vH_markNights_77), (qH 18, rI cy 6 vH_markPlaces_77), (qH 19, rZ cy 6 vH_markFound_77), (qR 4, rJ cy 7 vR_thingNames_77), (qR 3, rJ cy 4 vR_ringNames_77), (qH 9, rI cy 4 vH_places_77), (qU 1, rI cy 6 vU_things_77), (qU 2, rI cy 6 vU_cells_77), (qU 3, rI cy 6 vU_nights_77), (qU 4, rI cy 6 vU_worths_77), (qH 16, rI cy 7 vH_firstCells_77), (qH 14, rI cy 7 vH_kinds_77), (qH 15, rI cy 7 vH_sizes_77), (qH 12, rI cy 5 vH_doorOne_77), (qH 13, rI cy 5 vH_doorTwo_77), (qH 8, rI cy 4 vH_sorts_77)]) (ws2 := (wX5_read cy aR qR aH qH qU aH vR_11_77 vR_109 vH_77 vU_77 vH_next_77 vH_width_77 vR_tape vH_markNights_77 vH_markPlaces_77 vH_markFound_77 vR_thingNames_77 vR_ringNames_77 vH_places_77 vU_things_77 vU_cells_77 vU_nights_77 vU_worths_77 vH_firstCells_77 vH_kinds_77 vH_sizes_77 vH_doorOne_77 vH_doorTwo_77 vH_sorts_77)) (kRunV (As := [.int 6]) (rest := []) ⟨hx, hb, hml, hown, ht0⟩ (kX5_fails l D cy _ aR qR aH vR_11_77 vR_77 (6 : Int32) r109 vR_109 hc109 _ rfl) (cwV 1 ht0 (gV wd332 wd333 wd334 wd276 wd335) rfl rfl rfl (by decide +kernel) ⟨Nat.le_of_ble_eq_true rfl, Nat.le_of_ble_eq_true rfl⟩) hK hN hP hD [0] rfl (by decide) 0 4 rfl rfl rfl hl.1 rfl (Nat.le_of_ble_eq_true rfl) dX5_read_109 ⟨Nat.zero_le _, Nat.zero_le _⟩) hP hD hS hA [0] [1, 2, 3, 4, 5, 6, 7, 8, 9, 10, 11, 12, 13, 14, 15, 16, 17, 18, 19, 20, 21] rfl rfl (by decide) (by decide) [21, 0, 1, 2, 3, 4, 5, 6, 7, 8, 9, 10, 11, 12, 13, 14, 15, 16, 17, 18, 19, 20] (by decide) rfl rfl (fun H locs hP hD hS => ?_)
          refine lv_if_eq (tgt := 119) hx hb dX5_read_112 (by decide) (fun c112 => ?_) (fun c112 => ?_)
          · have hok := k_pos c112 hok
            refine lv_iconst (v := 0) hx hb dX5_read_119 (by decide) ?_
            exact J120 (0 : Int32) vH_doorOne_77 vH_doorTwo_77 vH_firstCells_77 vH_kinds_77 vH_markFound_77 vH_markNights_77 vH_markPlaces_77 vH_next_77 vH_places_77 vH_sizes_77 vH_sorts_77 vH_width_77 vR_ringNames_77 vR_thingNames_77 vU_cells_77 vU_nights_77 vU_things_77 vU_worths_77 vR_11_77 vH_77 vR_109 vU_77 H locs ls hP hD hS (lv_sub hl [] rfl) hok
          · have hok := k_neg c112 hok
            exact J115 vH_doorOne_77 vH_doorTwo_77 vH_firstCells_77 vH_kinds_77 vH_markFound_77 vH_markNights_77 vH_markPlaces_77 vH_next_77 vH_places_77 vH_sizes_77 vH_sorts_77 vH_width_77 vR_ringNames_77 vR_thingNames_77 vU_cells_77 vU_nights_77 vU_things_77 vU_worths_77 vR_11_77 vH_77 vR_109 vU_77 H locs ls hP hD hS (lv_sub hl [] rfl) hok
      · have hok := k_neg c87 hok
        refine lv_aload_n hx hb dX5_read_90 rfl (lv_at hl 0 rfl) ?_
        refine lv_iconst (v := 1) hx hb dX5_read_91 (by decide) ?_
        obtain ⟨⟨r92, vR_92⟩, hc92, hok⟩ := k_bind hok
        try dsimp only at hok
        refine kCi (wc := (wX5_fails cy aR qR aH aH vR_11_77 vR_77)) (wc2 := (wX5_fails cy aR qR aH aH vR_11_77 vR_92)) (wr := [(aH, oX4 vH_77 qH), (qH 7, oX7 vU_77 qU), (qH 10, rI cy 36 vH_next_77), (qH 11, rI cy 36 vH_width_77), (qR 0, rB cy 900 vR_tape), (qH 17, rI cy 6 vH_markNights_77), (qH 18, rI cy 6 vH_markPlaces_77), (qH 19, rZ cy 6 vH_markFound_77), (qR 4, rJ cy 7 vR_thingNames_77), (qR 3, rJ cy 4 vR_ringNames_77), (qH 9, rI cy 4 vH_places_77), (qU 1, rI cy 6 vU_things_77), (qU 2, rI cy 6 vU_cells_77), (qU 3, rI cy 6 vU_nights_77), (qU 4, rI cy 6 vU_worths_77), (qH 16, rI cy 7 vH_firstCells_77), (qH 14, rI cy 7 vH_kinds_77), (qH 15, rI cy 7 vH_sizes_77), (qH 12, rI cy 5 vH_doorOne_77), (qH 13, rI cy 5 vH_doorTwo_77), (qH 8, rI cy 4 vH_sorts_77)]) (ws2 := (wX5_read cy aR qR aH qH qU aH vR_11_77 vR_92 vH_77 vU_77 vH_next_77 vH_width_77 vR_tape vH_markNights_77 vH_markPlaces_77 vH_markFound_77 vR_thingNames_77 vR_ringNames_77 vH_places_77 vU_things_77 vU_cells_77 vU_nights_77 vU_worths_77 vH_firstCells_77 vH_kinds_77 vH_sizes_77 vH_doorOne_77 vH_doorTwo_77 vH_sorts_77)) (kRunV (As := [.int 1]) (rest := []) ⟨hx, hb, hml, hown, ht0⟩ (kX5_fails l D cy _ aR qR aH vR_11_77 vR_77 (1 : Int32) r92 vR_92 hc92 _ rfl) (cwV 1 ht0 (gV wd332 wd333 wd334 wd276 wd335) rfl rfl rfl (by decide +kernel) ⟨Nat.le_of_ble_eq_true rfl, Nat.le_of_ble_eq_true rfl⟩) hK hN hP hD [0] rfl (by decide) 0 4 rfl rfl rfl hl.1 rfl (Nat.le_of_ble_eq_true rfl) dX5_read_92 ⟨Nat.zero_le _, Nat.zero_le _⟩) hP hD hS hA [0] [1, 2, 3, 4, 5, 6, 7, 8, 9, 10, 11, 12, 13, 14, 15, 16, 17, 18, 19, 20, 21] rfl rfl (by decide) (by decide) [21, 0, 1, 2, 3, 4, 5, 6, 7, 8, 9, 10, 11, 12, 13, 14, 15, 16, 17, 18, 19, 20] (by decide) rfl rfl (fun H locs hP hD hS => ?_)
        obtain ⟨g95, hok⟩ := gd_some hok
        cases hok
        subst hQe; exact W.zret hx hb hr (isB_nar g95) (fun t ht hW => ⟨⟨_, (), rfl, rfl, by rw [ht]; exact hP, va_K.moved hW.alike hK, hD⟩, hS.F ht⟩) hS.2.2 dX5_read_95
    · have hok := k_pos c78 hok
      refine lv_iconst (v := 0) hx hb dX5_read_81 (by decide) ?_
      cases hok
      subst hQe; exact W.zret hx hb hr rfl (fun t ht hW => ⟨⟨_, (), rfl, rfl, by rw [ht]; exact hP, va_K.moved hW.alike hK, hD⟩, hS.F ht⟩) hS.2.2 dX5_read_82
  have L43 : ∀ (fuel : Nat) (y2_43 : Int32) (y3_43 : Int32) (vH_doorOne_43 : Nat → Int32) (vH_doorTwo_43 : Nat → Int32) (vH_firstCells_43 : Nat → Int32) (vH_kinds_43 : Nat → Int32) (vH_markFound_43 : Nat → Int32) (vH_markNights_43 : Nat → Int32) (vH_markPlaces_43 : Nat → Int32) (vH_next_43 : Nat → Int32) (vH_places_43 : Nat → Int32) (vH_sizes_43 : Nat → Int32) (vH_sorts_43 : Nat → Int32) (vH_width_43 : Nat → Int32) (vR_ringNames_43 : Nat → Int64) (vR_thingNames_43 : Nat → Int64) (vU_cells_43 : Nat → Int32) (vU_nights_43 : Nat → Int32) (vU_things_43 : Nat → Int32) (vU_worths_43 : Nat → Int32) (vR_11_43 : Int64) (vH_43 : Nat → Int32) (vR_43 : Nat → Int32) (vU_43 : Nat → Int32), ∀ (H : Heap) (locs : List Loc) (ls : Array Slot), va_P D vwCl (wX5_read cy aR qR aH qH qU aH vR_11_43 vR_43 vH_43 vU_43 vH_next_43 vH_width_43 vR_tape vH_markNights_43 vH_markPlaces_43 vH_markFound_43 vR_thingNames_43 vR_ringNames_43 vH_places_43 vU_things_43 vU_cells_43 vU_nights_43 vU_worths_43 vH_firstCells_43 vH_kinds_43 vH_sizes_43 vH_doorOne_43 vH_doorTwo_43 vH_sorts_43) H → va_D A (wX5_read cy aR qR aH qH qU aH vR_11_43 vR_43 vH_43 vU_43 vH_next_43 vH_width_43 vR_tape vH_markNights_43 vH_markPlaces_43 vH_markFound_43 vR_thingNames_43 vR_ringNames_43 vH_places_43 vU_things_43 vU_cells_43 vU_nights_43 vU_worths_43 vH_firstCells_43 vH_kinds_43 vH_sizes_43 vH_doorOne_43 vH_doorTwo_43 vH_sorts_43) → va_S A s.heap H locs → lv_has ls 4 [(0, .ref aR), (2, .int y2_43), (3, .int y3_43)] → lp (fX5_read_B43 vR_tape) fuel (y2_43, y3_43, vH_doorOne_43, vH_doorTwo_43, vH_firstCells_43, vH_kinds_43, vH_markFound_43, vH_markNights_43, vH_markPlaces_43, vH_next_43, vH_places_43, vH_sizes_43, vH_sorts_43, vH_width_43, vR_ringNames_43, vR_thingNames_43, vU_cells_43, vU_nights_43, vU_things_43, vU_worths_43, vR_11_43, vH_43, vR_43, vU_43) = some (zr, z_vR_j11, z_vR, z_vH, z_vU, z_vH_next, z_vH_width, z_vH_markNights, z_vH_markPlaces, z_vH_markFound, z_vR_thingNames, z_vR_ringNames, z_vH_places, z_vU_things, z_vU_cells, z_vU_nights, z_vU_worths, z_vH_firstCells, z_vH_kinds, z_vH_sizes, z_vH_doorOne, z_vH_doorTwo, z_vH_sorts) → W p l e ({ frames := 9, cells := 0, slots := 0, locals := 199 } : Room) s m ([.ref aR, .int x1] : List Value).toArray below meth c H locs 0 0 Q (F0 m 43 ls []) := by
    intro fuel
    induction fuel with
    | zero => intro y2_43 y3_43 vH_doorOne_43 vH_doorTwo_43 vH_firstCells_43 vH_kinds_43 vH_markFound_43 vH_markNights_43 vH_markPlaces_43 vH_next_43 vH_places_43 vH_sizes_43 vH_sorts_43 vH_width_43 vR_ringNames_43 vR_thingNames_43 vU_cells_43 vU_nights_43 vU_things_43 vU_worths_43 vR_11_43 vH_43 vR_43 vU_43 H locs ls hP hD hS hl hok; exact (lp_0 hok).elim
    | succ fuel ih43 =>
      intro y2_43 y3_43 vH_doorOne_43 vH_doorTwo_43 vH_firstCells_43 vH_kinds_43 vH_markFound_43 vH_markNights_43 vH_markPlaces_43 vH_next_43 vH_places_43 vH_sizes_43 vH_sorts_43 vH_width_43 vR_ringNames_43 vR_thingNames_43 vU_cells_43 vU_nights_43 vU_things_43 vU_worths_43 vR_11_43 vH_43 vR_43 vU_43 H locs ls hP hD hS hl hok
      obtain ⟨y43, hok, hL43, hR43⟩ := lp_step hok
      unfold fX5_read_B43 at hok
      try dsimp only at hok
      refine lv_iload_n hx hb dX5_read_43 rfl (lv_at hl 2 rfl) ?_
      refine lv_sipush (v := 900) hx hb dX5_read_44 (by decide) ?_
      refine lv_icmp_ge (tgt := 77) hx hb dX5_read_47 (by decide) (fun c47 => ?_) (fun c47 => ?_)
      · have hok := k_pos c47 hok
        obtain ⟨e43, hok, he43⟩ := ex_some hok
        have hok := hok.trans (congrArg some (hL43 _ he43))
        exact J77 y2_43 vH_doorOne_43 vH_doorTwo_43 vH_firstCells_43 vH_kinds_43 vH_markFound_43 vH_markNights_43 vH_markPlaces_43 vH_next_43 vH_places_43 vH_sizes_43 vH_sorts_43 vH_width_43 vR_ringNames_43 vR_thingNames_43 vU_cells_43 vU_nights_43 vU_things_43 vU_worths_43 vR_11_43 vH_43 vR_43 vU_43 H locs ls hP hD hS (lv_sub hl [0, 1] rfl) hok
      · have hok := k_neg c47 hok
        refine lv_iload_n hx hb dX5_read_50 rfl (lv_at hl 1 rfl) ?_
        refine lv_if_eq (tgt := 77) hx hb dX5_read_51 (by decide) (fun c51 => ?_) (fun c51 => ?_)
        · have hok := k_pos c51 hok
          obtain ⟨e43, hok, he43⟩ := ex_some hok
          have hok := hok.trans (congrArg some (hL43 _ he43))
          exact J77 y2_43 vH_doorOne_43 vH_doorTwo_43 vH_firstCells_43 vH_kinds_43 vH_markFound_43 vH_markNights_43 vH_markPlaces_43 vH_next_43 vH_places_43 vH_sizes_43 vH_sorts_43 vH_width_43 vR_ringNames_43 vR_thingNames_43 vU_cells_43 vU_nights_43 vU_things_43 vU_worths_43 vR_11_43 vH_43 vR_43 vU_43 H locs ls hP hD hS (lv_sub hl [0, 1] rfl) hok
        · have hok := k_neg c51 hok
          refine lv_aload_n hx hb dX5_read_54 rfl (lv_at hl 0 rfl) ?_
          refine va_get (D := D) (ci := 4) (v := .int (vR_43 7)) (C := RX5) (T := TX5) (N := 13) hx hb ht0 niX5 hown hK hP 0 rfl rfl 7 (by decide) (ht0 _ wd269) (fun _ h9 => h9) rfl dX5_read_55 ?_
          refine lv_iconst (v := 3) hx hb dX5_read_58 (by decide) ?_
          refine lv_icmp_ne (tgt := 77) hx hb dX5_read_59 (by decide) (fun c59 => ?_) (fun c59 => ?_)
          · have hok := k_neg c59 hok
            obtain ⟨e43, hok, he43⟩ := ex_some hok
            have hok := hok.trans (congrArg some (hL43 _ he43))
            exact J77 y2_43 vH_doorOne_43 vH_doorTwo_43 vH_firstCells_43 vH_kinds_43 vH_markFound_43 vH_markNights_43 vH_markPlaces_43 vH_next_43 vH_places_43 vH_sizes_43 vH_sorts_43 vH_width_43 vR_ringNames_43 vR_thingNames_43 vU_cells_43 vU_nights_43 vU_things_43 vU_worths_43 vR_11_43 vH_43 vR_43 vU_43 H locs ls hP hD hS (lv_sub hl [0, 1] rfl) hok
          · have hok := k_pos c59 hok
            refine lv_aload_n hx hb dX5_read_62 rfl (lv_at hl 0 rfl) ?_
            obtain ⟨⟨vR_j11_63, vR_63⟩, hc63, hok⟩ := k_bind hok
            try dsimp only at hok
            refine kCv (wc := (wX5_step cy aR qR aH aH vR_11_43 vR_43 vR_tape)) (wc2 := (wX5_step cy aR qR aH aH vR_j11_63 vR_63 vR_tape)) (wr := [(aH, oX4 vH_43 qH), (qH 7, oX7 vU_43 qU), (qH 10, rI cy 36 vH_next_43), (qH 11, rI cy 36 vH_width_43), (qH 17, rI cy 6 vH_markNights_43), (qH 18, rI cy 6 vH_markPlaces_43), (qH 19, rZ cy 6 vH_markFound_43), (qR 4, rJ cy 7 vR_thingNames_43), (qR 3, rJ cy 4 vR_ringNames_43), (qH 9, rI cy 4 vH_places_43), (qU 1, rI cy 6 vU_things_43), (qU 2, rI cy 6 vU_cells_43), (qU 3, rI cy 6 vU_nights_43), (qU 4, rI cy 6 vU_worths_43), (qH 16, rI cy 7 vH_firstCells_43), (qH 14, rI cy 7 vH_kinds_43), (qH 15, rI cy 7 vH_sizes_43), (qH 12, rI cy 5 vH_doorOne_43), (qH 13, rI cy 5 vH_doorTwo_43), (qH 8, rI cy 4 vH_sorts_43)]) (ws2 := (wX5_read cy aR qR aH qH qU aH vR_j11_63 vR_63 vH_43 vU_43 vH_next_43 vH_width_43 vR_tape vH_markNights_43 vH_markPlaces_43 vH_markFound_43 vR_thingNames_43 vR_ringNames_43 vH_places_43 vU_things_43 vU_cells_43 vU_nights_43 vU_worths_43 vH_firstCells_43 vH_kinds_43 vH_sizes_43 vH_doorOne_43 vH_doorTwo_43 vH_sorts_43)) (kRunV (As := []) (rest := []) ⟨hx, hb, hml, hown, ht0⟩ (kX5_step l D cy _ aR qR aH vR_11_43 vR_43 vR_tape vR_j11_63 vR_63 hc63 _ rfl) (cwV 0 ht0 (gV wd328 wd329 wd330 wd276 wd331) rfl rfl rfl (by decide +kernel) ⟨Nat.le_of_ble_eq_true rfl, Nat.le_of_ble_eq_true rfl⟩) hK hN hP hD [0, 5] rfl (by decide) 0 4 rfl rfl rfl hl.1 rfl (Nat.le_of_ble_eq_true rfl) dX5_read_63 ⟨Nat.zero_le _, Nat.zero_le _⟩) hP hD hS hA [0, 5] [1, 2, 3, 4, 6, 7, 8, 9, 10, 11, 12, 13, 14, 15, 16, 17, 18, 19, 20, 21] rfl rfl (by decide) (by decide) [20, 0, 1, 2, 3, 21, 4, 5, 6, 7, 8, 9, 10, 11, 12, 13, 14, 15, 16, 17, 18, 19] (by decide) rfl rfl (fun H locs hP hD hS => ?_)
            refine lv_aload_n hx hb dX5_read_66 rfl (lv_at hl 0 rfl) ?_
            obtain ⟨⟨r67, vR_j11_67, vR_67, vH_67, vU_67, vH_markNights_67, vH_markPlaces_67, vH_markFound_67, vR_thingNames_67, vR_ringNames_67, vH_places_67, vU_things_67, vU_cells_67, vU_nights_67, vU_worths_67, vH_firstCells_67, vH_kinds_67, vH_sizes_67, vH_doorOne_67, vH_doorTwo_67, vH_width_67, vH_sorts_67, vH_next_67⟩, hc67, hok⟩ := k_bind hok
            try dsimp only at hok
            refine kCi (wc := (wX5_readLine cy aR qR aH qH qU aH vR_j11_63 vR_63 vR_tape vH_43 vU_43 vH_markNights_43 vH_markPlaces_43 vH_markFound_43 vR_thingNames_43 vR_ringNames_43 vH_places_43 vU_things_43 vU_cells_43 vU_nights_43 vU_worths_43 vH_firstCells_43 vH_kinds_43 vH_sizes_43 vH_doorOne_43 vH_doorTwo_43 vH_width_43 vH_sorts_43 vH_next_43)) (wc2 := (wX5_readLine cy aR qR aH qH qU aH vR_j11_67 vR_67 vR_tape vH_67 vU_67 vH_markNights_67 vH_markPlaces_67 vH_markFound_67 vR_thingNames_67 vR_ringNames_67 vH_places_67 vU_things_67 vU_cells_67 vU_nights_67 vU_worths_67 vH_firstCells_67 vH_kinds_67 vH_sizes_67 vH_doorOne_67 vH_doorTwo_67 vH_width_67 vH_sorts_67 vH_next_67)) (wr := []) (ws2 := (wX5_read cy aR qR aH qH qU aH vR_j11_67 vR_67 vH_67 vU_67 vH_next_67 vH_width_67 vR_tape vH_markNights_67 vH_markPlaces_67 vH_markFound_67 vR_thingNames_67 vR_ringNames_67 vH_places_67 vU_things_67 vU_cells_67 vU_nights_67 vU_worths_67 vH_firstCells_67 vH_kinds_67 vH_sizes_67 vH_doorOne_67 vH_doorTwo_67 vH_sorts_67)) (kRunVS (As := []) (rest := []) ⟨hx, hb, hml, hown, ht0⟩ (kX5_readLine l D cy ad _ aR qR aH qH qU vR_j11_63 vR_63 vR_tape vH_43 vU_43 vH_markNights_43 vH_markPlaces_43 vH_markFound_43 vR_thingNames_43 vR_ringNames_43 vH_places_43 vU_things_43 vU_cells_43 vU_nights_43 vU_worths_43 vH_firstCells_43 vH_kinds_43 vH_sizes_43 vH_doorOne_43 vH_doorTwo_43 vH_width_43 vH_sorts_43 vH_next_43 r67 vR_j11_67 vR_67 vH_67 vU_67 vH_markNights_67 vH_markPlaces_67 vH_markFound_67 vR_thingNames_67 vR_ringNames_67 vH_places_67 vU_things_67 vU_cells_67 vU_nights_67 vU_worths_67 vH_firstCells_67 vH_kinds_67 vH_sizes_67 vH_doorOne_67 vH_doorTwo_67 vH_width_67 vH_sorts_67 vH_next_67 hc67 _ rfl) (cwV 0 ht0 (gV wd465 wd466 wd467 wd276 wd468) rfl rfl rfl (by decide +kernel) ⟨Nat.le_of_ble_eq_true rfl, Nat.le_of_ble_eq_true rfl⟩) hK hN hP hD hSt hS hA [0, 5, 1, 2, 6, 7, 8, 9, 10, 11, 12, 13, 14, 15, 16, 17, 18, 19, 20, 4, 21, 3] rfl (by decide) 0 4 rfl rfl rfl hl.1 rfl (Nat.le_of_ble_eq_true rfl) dX5_read_67 ⟨Nat.zero_le _, Nat.zero_le _⟩) hP hD hS hA [0, 5, 1, 2, 6, 7, 8, 9, 10, 11, 12, 13, 14, 15, 16, 17, 18, 19, 20, 4, 21, 3] [] rfl rfl (by decide) (by decide) [0, 2, 3, 21, 19, 1, 4, 5, 6, 7, 8, 9, 10, 11, 12, 13, 14, 15, 16, 17, 18, 20] (by decide) rfl rfl (fun H locs hP hD hS => ?_)
            refine lv_istore_n (lv' := [(2, .int r67), (0, .ref aR), (3, .int y3_43)]) hx hb dX5_read_70 rfl hl (by decide) rfl (fun ls hl => ?_)
            refine lv_iinc (v := (y3_43 + 1)) (lv' := [(3, .int (y3_43 + 1)), (2, .int r67), (0, .ref aR)]) hx hb dX5_read_71 hl (k := 2) rfl (by first | rfl | decide) (by decide) rfl (fun ls hl => ?_)
            refine lv_goto (tgt := 43) hx hb dX5_read_74 (by decide) ?_
            exact ih43 r67 (y3_43 + 1) vH_doorOne_67 vH_doorTwo_67 vH_firstCells_67 vH_kinds_67 vH_markFound_67 vH_markNights_67 vH_markPlaces_67 vH_next_67 vH_places_67 vH_sizes_67 vH_sorts_67 vH_width_67 vR_ringNames_67 vR_thingNames_67 vU_cells_67 vU_nights_67 vU_things_67 vU_worths_67 vR_j11_67 vH_67 vR_67 vU_67 H locs ls hP hD hS (lv_sub hl [2, 1, 0] rfl) (hR43 _ (Option.some.inj hok).symm)
  unfold fX5_read at hok
  obtain ⟨H, hH⟩ : ∃ H, H = s.heap := ⟨_, rfl⟩
  obtain ⟨locs, hlc⟩ : ∃ x : List Loc, x = [] := ⟨_, rfl⟩
  have hP : va_P D vwCl (wX5_read cy aR qR aH qH qU aH vR_j11 vR vH vU vH_next vH_width vR_tape vH_markNights vH_markPlaces vH_markFound vR_thingNames vR_ringNames vH_places vU_things vU_cells vU_nights vU_worths vH_firstCells vH_kinds vH_sizes vH_doorOne vH_doorTwo vH_sorts) H := by rw [hH]; exact hP
  have hS : va_S A s.heap H locs := by rw [hH, hlc]; exact hS
  rw [show W p l e _ s m _ below meth c s.heap [] = W p l e _ s m _ below meth c H locs from by rw [hH, hlc]]
  refine lv_aload_n hx hb dX5_read_0 rfl (lv_at hl 0 rfl) ?_
  refine lv_iload_n hx hb dX5_read_1 rfl (lv_at hl 1 rfl) ?_
  refine va_put (D := D) (ci := 4) (v := .int x1) (ty := .int) (C := RX5) (T := TX5) (N := 13) hx hb ht0 niX5 tyX5 tyX5_ok nmX5 hown hK hP hD hS 0 rfl rfl 6 (by decide) (ht0 _ wd267) (fun _ h9 => h9) rfl (by decide +kernel) rfl rfl (Nat.le_of_ble_eq_true rfl) dX5_read_2 (fun H locs hP hD hS => ?_)
  have hP : va_P D vwCl (wX5_read cy aR qR aH qH qU aH vR_j11 (upd vR 6 x1) vH vU vH_next vH_width vR_tape vH_markNights vH_markPlaces vH_markFound vR_thingNames vR_ringNames vH_places vU_things vU_cells vU_nights vU_worths vH_firstCells vH_kinds vH_sizes vH_doorOne vH_doorTwo vH_sorts) H := hP
  have hD : va_D A (wX5_read cy aR qR aH qH qU aH vR_j11 (upd vR 6 x1) vH vU vH_next vH_width vR_tape vH_markNights vH_markPlaces vH_markFound vR_thingNames vR_ringNames vH_places vU_things vU_cells vU_nights vU_worths vH_firstCells vH_kinds vH_sizes vH_doorOne vH_doorTwo vH_sorts) := hD
  refine lv_aload_n hx hb dX5_read_5 rfl (lv_at hl 0 rfl) ?_
  refine lv_iconst (v := 0) hx hb dX5_read_6 (by decide) ?_
  refine va_put (D := D) (ci := 4) (v := .int 0) (ty := .int) (C := RX5) (T := TX5) (N := 13) hx hb ht0 niX5 tyX5 tyX5_ok nmX5 hown hK hP hD hS 0 rfl rfl 9 (by decide) (ht0 _ wd270) (fun _ h9 => h9) rfl (by decide +kernel) rfl rfl (Nat.le_of_ble_eq_true rfl) dX5_read_7 (fun H locs hP hD hS => ?_)
  have hP : va_P D vwCl (wX5_read cy aR qR aH qH qU aH vR_j11 (upd (upd vR 6 x1) 9 (0 : Int32)) vH vU vH_next vH_width vR_tape vH_markNights vH_markPlaces vH_markFound vR_thingNames vR_ringNames vH_places vU_things vU_cells vU_nights vU_worths vH_firstCells vH_kinds vH_sizes vH_doorOne vH_doorTwo vH_sorts) H := hP
  have hD : va_D A (wX5_read cy aR qR aH qH qU aH vR_j11 (upd (upd vR 6 x1) 9 (0 : Int32)) vH vU vH_next vH_width vR_tape vH_markNights vH_markPlaces vH_markFound vR_thingNames vR_ringNames vH_places vU_things vU_cells vU_nights vU_worths vH_firstCells vH_kinds vH_sizes vH_doorOne vH_doorTwo vH_sorts) := hD
  refine lv_aload_n hx hb dX5_read_10 rfl (lv_at hl 0 rfl) ?_
  refine lv_iconst (v := 0) hx hb dX5_read_11 (by decide) ?_
  refine va_put (D := D) (ci := 4) (v := .int 0) (ty := .int) (C := RX5) (T := TX5) (N := 13) hx hb ht0 niX5 tyX5 tyX5_ok nmX5 hown hK hP hD hS 0 rfl rfl 12 (by decide) (ht0 _ wd264) (fun _ h9 => h9) rfl (by decide +kernel) rfl rfl (Nat.le_of_ble_eq_true rfl) dX5_read_12 (fun H locs hP hD hS => ?_)
  have hP : va_P D vwCl (wX5_read cy aR qR aH qH qU aH vR_j11 (upd (upd (upd vR 6 x1) 9 (0 : Int32)) 12 (0 : Int32)) vH vU vH_next vH_width vR_tape vH_markNights vH_markPlaces vH_markFound vR_thingNames vR_ringNames vH_places vU_things vU_cells vU_nights vU_worths vH_firstCells vH_kinds vH_sizes vH_doorOne vH_doorTwo vH_sorts) H := hP
  have hD : va_D A (wX5_read cy aR qR aH qH qU aH vR_j11 (upd (upd (upd vR 6 x1) 9 (0 : Int32)) 12 (0 : Int32)) vH vU vH_next vH_width vR_tape vH_markNights vH_markPlaces vH_markFound vR_thingNames vR_ringNames vH_places vU_things vU_cells vU_nights vU_worths vH_firstCells vH_kinds vH_sizes vH_doorOne vH_doorTwo vH_sorts) := hD
  refine lv_aload_n hx hb dX5_read_15 rfl (lv_at hl 0 rfl) ?_
  refine lv_iconst (v := 0) hx hb dX5_read_16 (by decide) ?_
  refine va_put (D := D) (ci := 4) (v := .int 0) (ty := .boolean) (C := RX5) (T := TX5) (N := 13) hx hb ht0 niX5 tyX5 tyX5_ok nmX5 hown hK hP hD hS 0 rfl rfl 5 (by decide) (ht0 _ wd340) (fun _ h9 => h9) rfl (by decide +kernel) rfl rfl (Nat.le_of_ble_eq_true rfl) dX5_read_17 (fun H locs hP hD hS => ?_)
  have hP : va_P D vwCl (wX5_read cy aR qR aH qH qU aH vR_j11 (upd (upd (upd (upd vR 5 (0 : Int32)) 6 x1) 9 (0 : Int32)) 12 (0 : Int32)) vH vU vH_next vH_width vR_tape vH_markNights vH_markPlaces vH_markFound vR_thingNames vR_ringNames vH_places vU_things vU_cells vU_nights vU_worths vH_firstCells vH_kinds vH_sizes vH_doorOne vH_doorTwo vH_sorts) H := hP
  have hD : va_D A (wX5_read cy aR qR aH qH qU aH vR_j11 (upd (upd (upd (upd vR 5 (0 : Int32)) 6 x1) 9 (0 : Int32)) 12 (0 : Int32)) vH vU vH_next vH_width vR_tape vH_markNights vH_markPlaces vH_markFound vR_thingNames vR_ringNames vH_places vU_things vU_cells vU_nights vU_worths vH_firstCells vH_kinds vH_sizes vH_doorOne vH_doorTwo vH_sorts) := hD
  refine lv_aload_n hx hb dX5_read_20 rfl (lv_at hl 0 rfl) ?_
  refine va_get (D := D) (ci := 4) (v := .ref aH) (C := RX5) (T := TX5) (N := 13) hx hb ht0 niX5 hown hK hP 0 rfl rfl 2 (by decide) (ht0 _ wd266) (fun _ h9 => h9) rfl dX5_read_21 ?_
  obtain ⟨⟨vH_24, vU_24, vH_next_24, vH_width_24⟩, hc24, hok⟩ := k_bind hok
  try dsimp only at hok
  refine kCv (wc := (wX4_clear cy aH qH qU vH vU vH_next vH_width)) (wc2 := (wX4_clear cy aH qH qU vH_24 vU_24 vH_next_24 vH_width_24)) (wr := [(aR, oX5 (upd (upd (upd (upd vR 5 (0 : Int32)) 6 x1) 9 (0 : Int32)) 12 (0 : Int32)) qR vR_j11 aH), (qR 0, rB cy 900 vR_tape), (qH 17, rI cy 6 vH_markNights), (qH 18, rI cy 6 vH_markPlaces), (qH 19, rZ cy 6 vH_markFound), (qR 4, rJ cy 7 vR_thingNames), (qR 3, rJ cy 4 vR_ringNames), (qH 9, rI cy 4 vH_places), (qU 1, rI cy 6 vU_things), (qU 2, rI cy 6 vU_cells), (qU 3, rI cy 6 vU_nights), (qU 4, rI cy 6 vU_worths), (qH 16, rI cy 7 vH_firstCells), (qH 14, rI cy 7 vH_kinds), (qH 15, rI cy 7 vH_sizes), (qH 12, rI cy 5 vH_doorOne), (qH 13, rI cy 5 vH_doorTwo), (qH 8, rI cy 4 vH_sorts)]) (ws2 := (wX5_read cy aR qR aH qH qU aH vR_j11 (upd (upd (upd (upd vR 5 (0 : Int32)) 6 x1) 9 (0 : Int32)) 12 (0 : Int32)) vH_24 vU_24 vH_next_24 vH_width_24 vR_tape vH_markNights vH_markPlaces vH_markFound vR_thingNames vR_ringNames vH_places vU_things vU_cells vU_nights vU_worths vH_firstCells vH_kinds vH_sizes vH_doorOne vH_doorTwo vH_sorts)) (kRunV (As := []) (rest := []) ⟨hx, hb, hml, hown, ht0⟩ (kX4_clear l D cy _ aH qH qU vH vU vH_next vH_width vH_24 vU_24 vH_next_24 vH_width_24 hc24 _ rfl) (cwV 0 ht0 (gV wd469 wd470 wd471 wd9 wd472) rfl rfl rfl (by decide +kernel) ⟨Nat.le_of_ble_eq_true rfl, Nat.le_of_ble_eq_true rfl⟩) hK hN hP hD [1, 2, 3, 4] rfl (by decide) 1 3 rfl rfl rfl hl.1 rfl (Nat.le_of_ble_eq_true rfl) dX5_read_24 ⟨Nat.zero_le _, Nat.zero_le _⟩) hP hD hS hA [1, 2, 3, 4] [0, 5, 6, 7, 8, 9, 10, 11, 12, 13, 14, 15, 16, 17, 18, 19, 20, 21] rfl rfl (by decide) (by decide) [0, 18, 19, 20, 21, 1, 2, 3, 4, 5, 6, 7, 8, 9, 10, 11, 12, 13, 14, 15, 16, 17] (by decide) rfl rfl (fun H locs hP hD hS => ?_)
  refine lv_aload_n hx hb dX5_read_27 rfl (lv_at hl 0 rfl) ?_
  refine lv_iconst (v := 0) hx hb dX5_read_28 (by decide) ?_
  refine va_put (D := D) (ci := 4) (v := .int 0) (ty := .int) (C := RX5) (T := TX5) (N := 13) hx hb ht0 niX5 tyX5 tyX5_ok nmX5 hown hK hP hD hS 0 rfl rfl 1 (by decide) (ht0 _ wd262) (fun _ h9 => h9) rfl (by decide +kernel) rfl rfl (Nat.le_of_ble_eq_true rfl) dX5_read_29 (fun H locs hP hD hS => ?_)
  have hP : va_P D vwCl (wX5_read cy aR qR aH qH qU aH vR_j11 (upd (upd (upd (upd (upd vR 1 (0 : Int32)) 5 (0 : Int32)) 6 x1) 9 (0 : Int32)) 12 (0 : Int32)) vH_24 vU_24 vH_next_24 vH_width_24 vR_tape vH_markNights vH_markPlaces vH_markFound vR_thingNames vR_ringNames vH_places vU_things vU_cells vU_nights vU_worths vH_firstCells vH_kinds vH_sizes vH_doorOne vH_doorTwo vH_sorts) H := hP
  have hD : va_D A (wX5_read cy aR qR aH qH qU aH vR_j11 (upd (upd (upd (upd (upd vR 1 (0 : Int32)) 5 (0 : Int32)) 6 x1) 9 (0 : Int32)) 12 (0 : Int32)) vH_24 vU_24 vH_next_24 vH_width_24 vR_tape vH_markNights vH_markPlaces vH_markFound vR_thingNames vR_ringNames vH_places vU_things vU_cells vU_nights vU_worths vH_firstCells vH_kinds vH_sizes vH_doorOne vH_doorTwo vH_sorts) := hD
  refine lv_aload_n hx hb dX5_read_32 rfl (lv_at hl 0 rfl) ?_
  obtain ⟨⟨vR_j11_33, vR_33⟩, hc33, hok⟩ := k_bind hok
  try dsimp only at hok
  refine kCv (wc := (wX5_step cy aR qR aH aH vR_j11 (upd (upd (upd (upd (upd vR 1 (0 : Int32)) 5 (0 : Int32)) 6 x1) 9 (0 : Int32)) 12 (0 : Int32)) vR_tape)) (wc2 := (wX5_step cy aR qR aH aH vR_j11_33 vR_33 vR_tape)) (wr := [(aH, oX4 vH_24 qH), (qH 7, oX7 vU_24 qU), (qH 10, rI cy 36 vH_next_24), (qH 11, rI cy 36 vH_width_24), (qH 17, rI cy 6 vH_markNights), (qH 18, rI cy 6 vH_markPlaces), (qH 19, rZ cy 6 vH_markFound), (qR 4, rJ cy 7 vR_thingNames), (qR 3, rJ cy 4 vR_ringNames), (qH 9, rI cy 4 vH_places), (qU 1, rI cy 6 vU_things), (qU 2, rI cy 6 vU_cells), (qU 3, rI cy 6 vU_nights), (qU 4, rI cy 6 vU_worths), (qH 16, rI cy 7 vH_firstCells), (qH 14, rI cy 7 vH_kinds), (qH 15, rI cy 7 vH_sizes), (qH 12, rI cy 5 vH_doorOne), (qH 13, rI cy 5 vH_doorTwo), (qH 8, rI cy 4 vH_sorts)]) (ws2 := (wX5_read cy aR qR aH qH qU aH vR_j11_33 vR_33 vH_24 vU_24 vH_next_24 vH_width_24 vR_tape vH_markNights vH_markPlaces vH_markFound vR_thingNames vR_ringNames vH_places vU_things vU_cells vU_nights vU_worths vH_firstCells vH_kinds vH_sizes vH_doorOne vH_doorTwo vH_sorts)) (kRunV (As := []) (rest := []) ⟨hx, hb, hml, hown, ht0⟩ (kX5_step l D cy _ aR qR aH vR_j11 (upd (upd (upd (upd (upd vR 1 (0 : Int32)) 5 (0 : Int32)) 6 x1) 9 (0 : Int32)) 12 (0 : Int32)) vR_tape vR_j11_33 vR_33 hc33 _ rfl) (cwV 0 ht0 (gV wd328 wd329 wd330 wd276 wd331) rfl rfl rfl (by decide +kernel) ⟨Nat.le_of_ble_eq_true rfl, Nat.le_of_ble_eq_true rfl⟩) hK hN hP hD [0, 5] rfl (by decide) 0 4 rfl rfl rfl hl.1 rfl (Nat.le_of_ble_eq_true rfl) dX5_read_33 ⟨Nat.zero_le _, Nat.zero_le _⟩) hP hD hS hA [0, 5] [1, 2, 3, 4, 6, 7, 8, 9, 10, 11, 12, 13, 14, 15, 16, 17, 18, 19, 20, 21] rfl rfl (by decide) (by decide) [20, 0, 1, 2, 3, 21, 4, 5, 6, 7, 8, 9, 10, 11, 12, 13, 14, 15, 16, 17, 18, 19] (by decide) rfl rfl (fun H locs hP hD hS => ?_)
  refine lv_aload_n hx hb dX5_read_36 rfl (lv_at hl 0 rfl) ?_
  obtain ⟨⟨r37, vR_j11_37, vR_37, vH_37, vU_37, vH_markNights_37, vH_markPlaces_37, vH_markFound_37, vR_thingNames_37, vR_ringNames_37, vH_places_37, vU_things_37, vU_cells_37, vU_nights_37, vU_worths_37, vH_firstCells_37, vH_kinds_37, vH_sizes_37, vH_doorOne_37, vH_doorTwo_37, vH_width_37, vH_sorts_37, vH_next_37⟩, hc37, hok⟩ := k_bind hok
  try dsimp only at hok
  refine kCi (wc := (wX5_readLine cy aR qR aH qH qU aH vR_j11_33 vR_33 vR_tape vH_24 vU_24 vH_markNights vH_markPlaces vH_markFound vR_thingNames vR_ringNames vH_places vU_things vU_cells vU_nights vU_worths vH_firstCells vH_kinds vH_sizes vH_doorOne vH_doorTwo vH_width_24 vH_sorts vH_next_24)) (wc2 := (wX5_readLine cy aR qR aH qH qU aH vR_j11_37 vR_37 vR_tape vH_37 vU_37 vH_markNights_37 vH_markPlaces_37 vH_markFound_37 vR_thingNames_37 vR_ringNames_37 vH_places_37 vU_things_37 vU_cells_37 vU_nights_37 vU_worths_37 vH_firstCells_37 vH_kinds_37 vH_sizes_37 vH_doorOne_37 vH_doorTwo_37 vH_width_37 vH_sorts_37 vH_next_37)) (wr := []) (ws2 := (wX5_read cy aR qR aH qH qU aH vR_j11_37 vR_37 vH_37 vU_37 vH_next_37 vH_width_37 vR_tape vH_markNights_37 vH_markPlaces_37 vH_markFound_37 vR_thingNames_37 vR_ringNames_37 vH_places_37 vU_things_37 vU_cells_37 vU_nights_37 vU_worths_37 vH_firstCells_37 vH_kinds_37 vH_sizes_37 vH_doorOne_37 vH_doorTwo_37 vH_sorts_37)) (kRunVS (As := []) (rest := []) ⟨hx, hb, hml, hown, ht0⟩ (kX5_readLine l D cy ad _ aR qR aH qH qU vR_j11_33 vR_33 vR_tape vH_24 vU_24 vH_markNights vH_markPlaces vH_markFound vR_thingNames vR_ringNames vH_places vU_things vU_cells vU_nights vU_worths vH_firstCells vH_kinds vH_sizes vH_doorOne vH_doorTwo vH_width_24 vH_sorts vH_next_24 r37 vR_j11_37 vR_37 vH_37 vU_37 vH_markNights_37 vH_markPlaces_37 vH_markFound_37 vR_thingNames_37 vR_ringNames_37 vH_places_37 vU_things_37 vU_cells_37 vU_nights_37 vU_worths_37 vH_firstCells_37 vH_kinds_37 vH_sizes_37 vH_doorOne_37 vH_doorTwo_37 vH_width_37 vH_sorts_37 vH_next_37 hc37 _ rfl) (cwV 0 ht0 (gV wd465 wd466 wd467 wd276 wd468) rfl rfl rfl (by decide +kernel) ⟨Nat.le_of_ble_eq_true rfl, Nat.le_of_ble_eq_true rfl⟩) hK hN hP hD hSt hS hA [0, 5, 1, 2, 6, 7, 8, 9, 10, 11, 12, 13, 14, 15, 16, 17, 18, 19, 20, 4, 21, 3] rfl (by decide) 0 4 rfl rfl rfl hl.1 rfl (Nat.le_of_ble_eq_true rfl) dX5_read_37 ⟨Nat.zero_le _, Nat.zero_le _⟩) hP hD hS hA [0, 5, 1, 2, 6, 7, 8, 9, 10, 11, 12, 13, 14, 15, 16, 17, 18, 19, 20, 4, 21, 3] [] rfl rfl (by decide) (by decide) [0, 2, 3, 21, 19, 1, 4, 5, 6, 7, 8, 9, 10, 11, 12, 13, 14, 15, 16, 17, 18, 20] (by decide) rfl rfl (fun H locs hP hD hS => ?_)
  refine lv_istore_n (lv' := [(2, .int r37), (0, .ref aR), (1, .int x1)]) hx hb dX5_read_40 rfl hl (by decide) rfl (fun ls hl => ?_)
  refine lv_iconst (v := 0) hx hb dX5_read_41 (by decide) ?_
  refine lv_istore_n (lv' := [(3, .int 0), (2, .int r37), (0, .ref aR), (1, .int x1)]) hx hb dX5_read_42 rfl hl (by decide) rfl (fun ls hl => ?_)
  exact L43 5000 r37 (0 : Int32) vH_doorOne_37 vH_doorTwo_37 vH_firstCells_37 vH_kinds_37 vH_markFound_37 vH_markNights_37 vH_markPlaces_37 vH_next_37 vH_places_37 vH_sizes_37 vH_sorts_37 vH_width_37 vR_ringNames_37 vR_thingNames_37 vU_cells_37 vU_nights_37 vU_things_37 vU_worths_37 vR_j11_37 vH_37 vR_37 vU_37 H locs ls hP hD hS (lv_sub hl [2, 1, 0] rfl) hok
def wsX6_widen : List Cond := .code yX6_widen cX6_widen 2 none :: W0
abbrev wX6_widen (cy : Nat → ClassId) (aW : Nat) (qW : Nat → Nat) (aH : Nat) (fvW_4 : Nat) (vW : Nat → Int32) : va_W := [(aW, oX6 vW qW fvW_4)]
set_option maxHeartbeats 4000000 in
set_option maxRecDepth 100000 in
theorem kX6_widen (l : Launch) (D : va_G) (cy : Nat → ClassId) (sz : Nat) (aW : Nat) (qW : Nat → Nat) (aH : Nat) (vW : Nat → Int32) (x1 : Int32) (z_vW : Nat → Int32) (hok : fX6_widen vW x1 = some z_vW) (A : Nat → Prop) (hAe : va_A (wX6_widen cy aW qW aH aH vW) sz = A) : Met l yX6_widen wsX6_widen ({ frames := 0, cells := 0, slots := 0, locals := 0 } : Room) (kPre D cy [.ref aW, .int x1] (wX6_widen cy aW qW aH aH vW) sz) (kQv D cy A (wX6_widen cy aW qW aH aH z_vW)) 0 0 A := by
  refine Met.ofW (cc := cX6_widen) (maxL := 2) (ret := none) (by decide) rfl ?_
  intro p e s m args below meth c s₁ B hml hv
  obtain ⟨rfl, hsz, hP, hK, hD0, hN⟩ := hv
  have hx := B.exec
  have hb := B.bytes
  have hr := B.returns
  have ht0 : ∀ w ∈ W0, w.before _ s = true := fun w h => atoms_spec (ws := wsX6_widen) B.pre w (List.mem_cons_of_mem _ h)
  have hown : s.vm.findClass RX6 = some m.cls := findClass_of_methodNamed B.named
  have hlocks := B.notSynchronized
  subst hsz
  have hD : va_D A (wX6_widen cy aW qW aH aH vW) := by rw [← hAe]; exact hD0.self
  have hA : ∀ q : Nat, s.heap.size ≤ q → A q := fun q h => by rw [← hAe]; exact Or.inr h
  have hS : va_S A s.heap s.heap [] := va_S.rf
  have hl := lv_entry ([.ref aW, .int x1]) (n := 2) (Nat.le_of_ble_eq_true rfl)
  rw [lg_entry_eq]
  generalize (lg_sl ([.ref aW, .int x1]) ++ List.replicate (2 - (lg_sl ([.ref aW, .int x1])).length) Slot.unset).toArray = ls at hl ⊢
  have hl : lv_has ls 2 [(0, .ref aW), (1, .int x1)] := hl
  unfold fX6_widen at hok
  obtain ⟨H, hH⟩ : ∃ H, H = s.heap := ⟨_, rfl⟩
  obtain ⟨locs, hlc⟩ : ∃ x : List Loc, x = [] := ⟨_, rfl⟩
  have hP : va_P D vwCl (wX6_widen cy aW qW aH aH vW) H := by rw [hH]; exact hP
  have hS : va_S A s.heap H locs := by rw [hH, hlc]; exact hS
  rw [show W p l e _ s m _ below meth c s.heap [] = W p l e _ s m _ below meth c H locs from by rw [hH, hlc]]
  refine lv_aload_n hx hb dX6_widen_0 rfl (lv_at hl 0 rfl) ?_
  refine lv_iload_n hx hb dX6_widen_1 rfl (lv_at hl 1 rfl) ?_
  refine va_put (D := D) (ci := 5) (v := .int x1) (ty := .int) (C := RX6) (T := TX6) (N := 13) hx hb ht0 niX6 tyX6 tyX6_ok nmX6 hown hK hP hD hS 0 rfl rfl 9 (by decide) (ht0 _ wd125) (fun _ h9 => h9) rfl (by decide +kernel) rfl rfl (Nat.le_of_ble_eq_true rfl) dX6_widen_2 (fun H locs hP hD hS => ?_)
  have hP : va_P D vwCl (wX6_widen cy aW qW aH aH (upd vW 9 x1)) H := hP
  have hD : va_D A (wX6_widen cy aW qW aH aH (upd vW 9 x1)) := hD
  cases hok
  exact W.vret hx hb hr (fun t ht hW => ⟨⟨(), rfl, trivial, by rw [ht]; exact hP, va_K.moved hW.alike hK, hD⟩, hS.F ht⟩) hS.2.2 dX6_widen_5
def wsX6_sow : List Cond := .code yX6_sow cX6_sow 2 none :: W0
abbrev wX6_sow (cy : Nat → ClassId) (aW : Nat) (qW : Nat → Nat) (aH : Nat) (fvW_4 : Nat) (vW : Nat → Int32) : va_W := [(aW, oX6 vW qW fvW_4)]
set_option maxHeartbeats 4000000 in
set_option maxRecDepth 100000 in
theorem kX6_sow (l : Launch) (D : va_G) (cy : Nat → ClassId) (sz : Nat) (aW : Nat) (qW : Nat → Nat) (aH : Nat) (vW : Nat → Int32) (x1 : Int32) (z_vW : Nat → Int32) (hok : fX6_sow vW x1 = some z_vW) (A : Nat → Prop) (hAe : va_A (wX6_sow cy aW qW aH aH vW) sz = A) : Met l yX6_sow wsX6_sow ({ frames := 0, cells := 0, slots := 0, locals := 0 } : Room) (kPre D cy [.ref aW, .int x1] (wX6_sow cy aW qW aH aH vW) sz) (kQv D cy A (wX6_sow cy aW qW aH aH z_vW)) 0 0 A := by
  refine Met.ofW (cc := cX6_sow) (maxL := 2) (ret := none) (by decide) rfl ?_
  intro p e s m args below meth c s₁ B hml hv
  obtain ⟨rfl, hsz, hP, hK, hD0, hN⟩ := hv
  have hx := B.exec
  have hb := B.bytes
  have hr := B.returns
  have ht0 : ∀ w ∈ W0, w.before _ s = true := fun w h => atoms_spec (ws := wsX6_sow) B.pre w (List.mem_cons_of_mem _ h)
  have hown : s.vm.findClass RX6 = some m.cls := findClass_of_methodNamed B.named
  have hlocks := B.notSynchronized
  subst hsz
  have hD : va_D A (wX6_sow cy aW qW aH aH vW) := by rw [← hAe]; exact hD0.self
  have hA : ∀ q : Nat, s.heap.size ≤ q → A q := fun q h => by rw [← hAe]; exact Or.inr h
  have hS : va_S A s.heap s.heap [] := va_S.rf
  have hl := lv_entry ([.ref aW, .int x1]) (n := 2) (Nat.le_of_ble_eq_true rfl)
  rw [lg_entry_eq]
  generalize (lg_sl ([.ref aW, .int x1]) ++ List.replicate (2 - (lg_sl ([.ref aW, .int x1])).length) Slot.unset).toArray = ls at hl ⊢
  have hl : lv_has ls 2 [(0, .ref aW), (1, .int x1)] := hl
  unfold fX6_sow at hok
  obtain ⟨H, hH⟩ : ∃ H, H = s.heap := ⟨_, rfl⟩
  obtain ⟨locs, hlc⟩ : ∃ x : List Loc, x = [] := ⟨_, rfl⟩
  have hP : va_P D vwCl (wX6_sow cy aW qW aH aH vW) H := by rw [hH]; exact hP
  have hS : va_S A s.heap H locs := by rw [hH, hlc]; exact hS
  rw [show W p l e _ s m _ below meth c s.heap [] = W p l e _ s m _ below meth c H locs from by rw [hH, hlc]]
  refine lv_aload_n hx hb dX6_sow_0 rfl (lv_at hl 0 rfl) ?_
  refine lv_iload_n hx hb dX6_sow_1 rfl (lv_at hl 1 rfl) ?_
  refine va_put (D := D) (ci := 5) (v := .int x1) (ty := .int) (C := RX6) (T := TX6) (N := 13) hx hb ht0 niX6 tyX6 tyX6_ok nmX6 hown hK hP hD hS 0 rfl rfl 10 (by decide) (ht0 _ wd473) (fun _ h9 => h9) rfl (by decide +kernel) rfl rfl (Nat.le_of_ble_eq_true rfl) dX6_sow_2 (fun H locs hP hD hS => ?_)
  have hP : va_P D vwCl (wX6_sow cy aW qW aH aH (upd vW 10 x1)) H := hP
  have hD : va_D A (wX6_sow cy aW qW aH aH (upd vW 10 x1)) := hD
  cases hok
  exact W.vret hx hb hr (fun t ht hW => ⟨⟨(), rfl, trivial, by rw [ht]; exact hP, va_K.moved hW.alike hK, hD⟩, hS.F ht⟩) hS.2.2 dX6_sow_5
def wsX6_shift : List Cond := .code yX6_shift cX6_shift 3 none :: W0
abbrev wX6_shift (cy : Nat → ClassId) (aW : Nat) (qW : Nat → Nat) (aH : Nat) (fvW_4 : Nat) (vW : Nat → Int32) (vW_cells : Nat → Int32) (vW_who : Nat → Int32) : va_W := [(aW, oX6 vW qW fvW_4), (qW 0, rI cy 7 vW_cells), (qW 1, rI cy 36 vW_who)]
set_option maxHeartbeats 4000000 in
set_option maxRecDepth 100000 in
theorem kX6_shift (l : Launch) (D : va_G) (cy : Nat → ClassId) (sz : Nat) (aW : Nat) (qW : Nat → Nat) (aH : Nat) (vW : Nat → Int32) (vW_cells : Nat → Int32) (vW_who : Nat → Int32) (x1 : Int32) (x2 : Int32) (z_vW_cells : Nat → Int32) (z_vW_who : Nat → Int32) (hok : fX6_shift vW vW_cells vW_who x1 x2 = some (z_vW_cells, z_vW_who)) (A : Nat → Prop) (hAe : va_A (wX6_shift cy aW qW aH aH vW vW_cells vW_who) sz = A) : Met l yX6_shift wsX6_shift ({ frames := 1, cells := 0, slots := 0, locals := 22 } : Room) (kPre D cy [.ref aW, .int x1, .int x2] (wX6_shift cy aW qW aH aH vW vW_cells vW_who) sz) (kQv D cy A (wX6_shift cy aW qW aH aH vW z_vW_cells z_vW_who)) 0 0 A := by
  refine Met.ofW (cc := cX6_shift) (maxL := 3) (ret := none) (by decide) rfl ?_
  intro p e s m args below meth c s₁ B hml hv
  obtain ⟨rfl, hsz, hP, hK, hD0, hN⟩ := hv
  have hx := B.exec
  have hb := B.bytes
  have hr := B.returns
  have ht0 : ∀ w ∈ W0, w.before _ s = true := fun w h => atoms_spec (ws := wsX6_shift) B.pre w (List.mem_cons_of_mem _ h)
  have hown : s.vm.findClass RX6 = some m.cls := findClass_of_methodNamed B.named
  have hlocks := B.notSynchronized
  subst hsz
  have hD : va_D A (wX6_shift cy aW qW aH aH vW vW_cells vW_who) := by rw [← hAe]; exact hD0.self
  have hA : ∀ q : Nat, s.heap.size ≤ q → A q := fun q h => by rw [← hAe]; exact Or.inr h
  have hS : va_S A s.heap s.heap [] := va_S.rf
  have hl := lv_entry ([.ref aW, .int x1, .int x2]) (n := 3) (Nat.le_of_ble_eq_true rfl)
  rw [lg_entry_eq]
  generalize (lg_sl ([.ref aW, .int x1, .int x2]) ++ List.replicate (3 - (lg_sl ([.ref aW, .int x1, .int x2])).length) Slot.unset).toArray = ls at hl ⊢
  have hl : lv_has ls 3 [(0, .ref aW), (1, .int x1), (2, .int x2)] := hl
  generalize hQe : MQ below (kQv D cy A (wX6_shift cy aW qW aH aH vW z_vW_cells z_vW_who)) ([.ref aW, .int x1, .int x2] : List Value).toArray s 0 0 A = Q
  have J34 : ∀ (vW_cells_34 : Nat → Int32) (vW_who_34 : Nat → Int32), ∀ (H : Heap) (locs : List Loc) (ls : Array Slot), va_P D vwCl (wX6_shift cy aW qW aH aH vW vW_cells_34 vW_who_34) H → va_D A (wX6_shift cy aW qW aH aH vW vW_cells_34 vW_who_34) → va_S A s.heap H locs → lv_has ls 3 [] → fX6_shift_J34 vW_cells_34 vW_who_34 = some (z_vW_cells, z_vW_who) → W p l e ({ frames := 1, cells := 0, slots := 0, locals := 22 } : Room) s m ([.ref aW, .int x1, .int x2] : List Value).toArray below meth c H locs 0 0 Q (F0 m 34 ls []) := by
    intro vW_cells_34 vW_who_34 H locs ls hP hD hS hl hok
    unfold fX6_shift_J34 at hok
    cases hok
    subst hQe; exact W.vret hx hb hr (fun t ht hW => ⟨⟨(), rfl, trivial, by rw [ht]; exact hP, va_K.moved hW.alike hK, hD⟩, hS.F ht⟩) hS.2.2 dX6_shift_34
  unfold fX6_shift at hok
  obtain ⟨H, hH⟩ : ∃ H, H = s.heap := ⟨_, rfl⟩
  obtain ⟨locs, hlc⟩ : ∃ x : List Loc, x = [] := ⟨_, rfl⟩
  have hP : va_P D vwCl (wX6_shift cy aW qW aH aH vW vW_cells vW_who) H := by rw [hH]; exact hP
  have hS : va_S A s.heap H locs := by rw [hH, hlc]; exact hS
  rw [show W p l e _ s m _ below meth c s.heap [] = W p l e _ s m _ below meth c H locs from by rw [hH, hlc]]
  refine lv_iload_n hx hb dX6_shift_0 rfl (lv_at hl 1 rfl) ?_
  refine lv_if_lt (tgt := 34) hx hb dX6_shift_1 (by decide) (fun c1 => ?_) (fun c1 => ?_)
  · have hok := k_pos c1 hok
    exact J34 vW_cells vW_who H locs ls hP hD hS (lv_sub hl [] rfl) hok
  · have hok := k_neg c1 hok
    refine lv_iload_n hx hb dX6_shift_4 rfl (lv_at hl 1 rfl) ?_
    refine lv_bipush (v := 7) hx hb dX6_shift_5 (by decide) ?_
    refine lv_icmp_ge (tgt := 34) hx hb dX6_shift_7 (by decide) (fun c7 => ?_) (fun c7 => ?_)
    · have hok := k_pos c7 hok
      exact J34 vW_cells vW_who H locs ls hP hD hS (lv_sub hl [] rfl) hok
    · have hok := k_neg c7 hok
      refine lv_aload_n hx hb dX6_shift_10 rfl (lv_at hl 0 rfl) ?_
      refine lv_iconst (v := -1) hx hb dX6_shift_11 (by decide) ?_
      refine lv_aload_n hx hb dX6_shift_12 rfl (lv_at hl 0 rfl) ?_
      refine va_get (D := D) (ci := 5) (v := .ref (qW 0)) (C := RX6) (T := TX6) (N := 13) hx hb ht0 niX6 hown hK hP 0 rfl rfl 0 (by decide) (ht0 _ wd110) (fun _ h9 => h9) rfl dX6_shift_13 ?_
      refine lv_iload_n hx hb dX6_shift_16 rfl (lv_at hl 1 rfl) ?_
      obtain ⟨g17, hok⟩ := gd_some hok
      refine va_iald hx hb hK hP 1 0 rfl rfl (okI_in g17) dX6_shift_17 ?_
      obtain ⟨vW_who_18, hc18, hok⟩ := k_bind hok
      refine kCv (wc := (wX6_seat cy aW qW aH aH vW vW_who)) (wc2 := (wX6_seat cy aW qW aH aH vW vW_who_18)) (wr := [(qW 0, rI cy 7 vW_cells)]) (ws2 := (wX6_shift cy aW qW aH aH vW vW_cells vW_who_18)) (kRunV (As := [.int (-1), .int (vW_cells x1.toNatClampNeg)]) (rest := []) ⟨hx, hb, hml, hown, ht0⟩ (kX6_seat l D cy _ aW qW aH vW vW_who (-1 : Int32) (vW_cells x1.toNatClampNeg) vW_who_18 hc18 _ rfl) (cwV 2 ht0 (gV wd111 wd112 wd113 wd114 wd115) rfl rfl rfl (by decide +kernel) ⟨Nat.le_of_ble_eq_true rfl, Nat.le_of_ble_eq_true rfl⟩) hK hN hP hD [0, 2] rfl (by decide) 0 5 rfl rfl rfl hl.1 rfl (Nat.le_of_ble_eq_true rfl) dX6_shift_18 ⟨Nat.zero_le _, Nat.zero_le _⟩) hP hD hS hA [0, 2] [1] rfl rfl (by decide) (by decide) [1, 0, 2] (by decide) rfl rfl (fun H locs hP hD hS => ?_)
      refine lv_aload_n hx hb dX6_shift_21 rfl (lv_at hl 0 rfl) ?_
      refine va_get (D := D) (ci := 5) (v := .ref (qW 0)) (C := RX6) (T := TX6) (N := 13) hx hb ht0 niX6 hown hK hP 0 rfl rfl 0 (by decide) (ht0 _ wd110) (fun _ h9 => h9) rfl dX6_shift_22 ?_
      refine lv_iload_n hx hb dX6_shift_25 rfl (lv_at hl 1 rfl) ?_
      refine lv_iload_n hx hb dX6_shift_26 rfl (lv_at hl 2 rfl) ?_
      obtain ⟨g27, hok⟩ := gd_some hok
      refine va_iast hx hb hK hP hD hS 1 0 rfl rfl (okI_in g27) dX6_shift_27 (fun H locs hP hD hS => ?_)
      have hP : va_P D vwCl (wX6_shift cy aW qW aH aH vW (upd vW_cells x1.toNatClampNeg x2) vW_who_18) H := hP
      have hD : va_D A (wX6_shift cy aW qW aH aH vW (upd vW_cells x1.toNatClampNeg x2) vW_who_18) := hD
      refine lv_aload_n hx hb dX6_shift_28 rfl (lv_at hl 0 rfl) ?_
      refine lv_iload_n hx hb dX6_shift_29 rfl (lv_at hl 1 rfl) ?_
      refine lv_iload_n hx hb dX6_shift_30 rfl (lv_at hl 2 rfl) ?_
      obtain ⟨vW_who_31, hc31, hok⟩ := k_bind hok
      refine kCv (wc := (wX6_seat cy aW qW aH aH vW vW_who_18)) (wc2 := (wX6_seat cy aW qW aH aH vW vW_who_31)) (wr := [(qW 0, rI cy 7 (upd vW_cells x1.toNatClampNeg x2))]) (ws2 := (wX6_shift cy aW qW aH aH vW (upd vW_cells x1.toNatClampNeg x2) vW_who_31)) (kRunV (As := [.int x1, .int x2]) (rest := []) ⟨hx, hb, hml, hown, ht0⟩ (kX6_seat l D cy _ aW qW aH vW vW_who_18 x1 x2 vW_who_31 hc31 _ rfl) (cwV 2 ht0 (gV wd111 wd112 wd113 wd114 wd115) rfl rfl rfl (by decide +kernel) ⟨Nat.le_of_ble_eq_true rfl, Nat.le_of_ble_eq_true rfl⟩) hK hN hP hD [0, 2] rfl (by decide) 0 5 rfl rfl rfl hl.1 rfl (Nat.le_of_ble_eq_true rfl) dX6_shift_31 ⟨Nat.zero_le _, Nat.zero_le _⟩) hP hD hS hA [0, 2] [1] rfl rfl (by decide) (by decide) [1, 0, 2] (by decide) rfl rfl (fun H locs hP hD hS => ?_)
      exact J34 (upd vW_cells x1.toNatClampNeg x2) vW_who_31 H locs ls hP hD hS (lv_sub hl [] rfl) hok
def wsX6_went : List Cond := .code yX6_went cX6_went 1 (some .int) :: W0
abbrev wX6_went (cy : Nat → ClassId) (aW : Nat) (qW : Nat → Nat) (aH : Nat) (fvW_4 : Nat) (vW : Nat → Int32) : va_W := [(aW, oX6 vW qW fvW_4)]
set_option maxHeartbeats 4000000 in
set_option maxRecDepth 100000 in
theorem kX6_went (l : Launch) (D : va_G) (cy : Nat → ClassId) (sz : Nat) (aW : Nat) (qW : Nat → Nat) (aH : Nat) (vW : Nat → Int32) (zr : Int32) (hok : fX6_went vW = some zr) (A : Nat → Prop) (hAe : va_A (wX6_went cy aW qW aH aH vW) sz = A) : Met l yX6_went wsX6_went ({ frames := 0, cells := 0, slots := 0, locals := 0 } : Room) (kPre D cy [.ref aW] (wX6_went cy aW qW aH aH vW) sz) (kQi D cy zr A (wX6_went cy aW qW aH aH vW)) 0 0 A := by
  refine Met.ofW (cc := cX6_went) (maxL := 1) (ret := (some .int)) (by decide) rfl ?_
  intro p e s m args below meth c s₁ B hml hv
  obtain ⟨rfl, hsz, hP, hK, hD0, hN⟩ := hv
  have hx := B.exec
  have hb := B.bytes
  have hr := B.returns
  have ht0 : ∀ w ∈ W0, w.before _ s = true := fun w h => atoms_spec (ws := wsX6_went) B.pre w (List.mem_cons_of_mem _ h)
  have hown : s.vm.findClass RX6 = some m.cls := findClass_of_methodNamed B.named
  have hlocks := B.notSynchronized
  subst hsz
  have hD : va_D A (wX6_went cy aW qW aH aH vW) := by rw [← hAe]; exact hD0.self
  have hA : ∀ q : Nat, s.heap.size ≤ q → A q := fun q h => by rw [← hAe]; exact Or.inr h
  have hS : va_S A s.heap s.heap [] := va_S.rf
  have hl := lv_entry ([.ref aW]) (n := 1) (Nat.le_of_ble_eq_true rfl)
  rw [lg_entry_eq]
  generalize (lg_sl ([.ref aW]) ++ List.replicate (1 - (lg_sl ([.ref aW])).length) Slot.unset).toArray = ls at hl ⊢
  have hl : lv_has ls 1 [(0, .ref aW)] := hl
  unfold fX6_went at hok
  obtain ⟨H, hH⟩ : ∃ H, H = s.heap := ⟨_, rfl⟩
  obtain ⟨locs, hlc⟩ : ∃ x : List Loc, x = [] := ⟨_, rfl⟩
  have hP : va_P D vwCl (wX6_went cy aW qW aH aH vW) H := by rw [hH]; exact hP
  have hS : va_S A s.heap H locs := by rw [hH, hlc]; exact hS
  rw [show W p l e _ s m _ below meth c s.heap [] = W p l e _ s m _ below meth c H locs from by rw [hH, hlc]]
  refine lv_aload_n hx hb dX6_went_0 rfl (lv_at hl 0 rfl) ?_
  refine va_get (D := D) (ci := 5) (v := .int (vW 12)) (C := RX6) (T := TX6) (N := 13) hx hb ht0 niX6 hown hK hP 0 rfl rfl 12 (by decide) (ht0 _ wd136) (fun _ h9 => h9) rfl dX6_went_1 ?_
  cases hok
  exact W.iret hx hb hr (fun t ht hW => ⟨⟨_, (), rfl, rfl, by rw [ht]; exact hP, va_K.moved hW.alike hK, hD⟩, hS.F ht⟩) hS.2.2 dX6_went_4
def wsX6_stuck : List Cond := .code yX6_stuck cX6_stuck 1 (some .int) :: W0
abbrev wX6_stuck (cy : Nat → ClassId) (aW : Nat) (qW : Nat → Nat) (aH : Nat) (qH : Nat → Nat) (fvW_4 : Nat) (vW : Nat → Int32) (vH : Nat → Int32) : va_W := [(aW, oX6 vW qW fvW_4), (aH, oX4 vH qH)]
set_option maxHeartbeats 4000000 in
set_option maxRecDepth 100000 in
theorem kX6_stuck (l : Launch) (D : va_G) (cy : Nat → ClassId) (sz : Nat) (aW : Nat) (qW : Nat → Nat) (aH : Nat) (qH : Nat → Nat) (vW : Nat → Int32) (vH : Nat → Int32) (zr : Int32) (hok : fX6_stuck vW vH = some zr) (A : Nat → Prop) (hAe : va_A (wX6_stuck cy aW qW aH qH aH vW vH) sz = A) : Met l yX6_stuck wsX6_stuck ({ frames := 0, cells := 0, slots := 0, locals := 0 } : Room) (kPre D cy [.ref aW] (wX6_stuck cy aW qW aH qH aH vW vH) sz) (kQi D cy zr A (wX6_stuck cy aW qW aH qH aH vW vH)) 0 0 A := by
  refine Met.ofW (cc := cX6_stuck) (maxL := 1) (ret := (some .int)) (by decide) rfl ?_
  intro p e s m args below meth c s₁ B hml hv
  obtain ⟨rfl, hsz, hP, hK, hD0, hN⟩ := hv
  have hx := B.exec
  have hb := B.bytes
  have hr := B.returns
  have ht0 : ∀ w ∈ W0, w.before _ s = true := fun w h => atoms_spec (ws := wsX6_stuck) B.pre w (List.mem_cons_of_mem _ h)
  have hown : s.vm.findClass RX6 = some m.cls := findClass_of_methodNamed B.named
  have hlocks := B.notSynchronized
  subst hsz
  have hD : va_D A (wX6_stuck cy aW qW aH qH aH vW vH) := by rw [← hAe]; exact hD0.self
  have hA : ∀ q : Nat, s.heap.size ≤ q → A q := fun q h => by rw [← hAe]; exact Or.inr h
  have hS : va_S A s.heap s.heap [] := va_S.rf
  have hl := lv_entry ([.ref aW]) (n := 1) (Nat.le_of_ble_eq_true rfl)
  rw [lg_entry_eq]
  generalize (lg_sl ([.ref aW]) ++ List.replicate (1 - (lg_sl ([.ref aW])).length) Slot.unset).toArray = ls at hl ⊢
  have hl : lv_has ls 1 [(0, .ref aW)] := hl
  unfold fX6_stuck at hok
  obtain ⟨H, hH⟩ : ∃ H, H = s.heap := ⟨_, rfl⟩
  obtain ⟨locs, hlc⟩ : ∃ x : List Loc, x = [] := ⟨_, rfl⟩
  have hP : va_P D vwCl (wX6_stuck cy aW qW aH qH aH vW vH) H := by rw [hH]; exact hP
  have hS : va_S A s.heap H locs := by rw [hH, hlc]; exact hS
  rw [show W p l e _ s m _ below meth c s.heap [] = W p l e _ s m _ below meth c H locs from by rw [hH, hlc]]
  refine lv_iconst (v := 1) hx hb dX6_stuck_0 (by decide) ?_
  refine lv_aload_n hx hb dX6_stuck_1 rfl (lv_at hl 0 rfl) ?_
  refine va_get (D := D) (ci := 5) (v := .ref aH) (C := RX6) (T := TX6) (N := 13) hx hb ht0 niX6 hown hK hP 0 rfl rfl 4 (by decide) (ht0 _ wd101) (fun _ h9 => h9) rfl dX6_stuck_2 ?_
  refine va_get (D := D) (ci := 3) (v := .int (vH 5)) (C := RX4) (T := TX4) (N := 20) hx hb ht0 niX4 hown hK hP 1 rfl rfl 5 (by decide) (ht0 _ wd107) (fun _ h9 => h9) rfl dX6_stuck_5 ?_
  refine lv_ishl hx hb dX6_stuck_8 ?_
  refine lv_iconst (v := 1) hx hb dX6_stuck_9 (by decide) ?_
  refine lv_isub hx hb dX6_stuck_10 ?_
  refine lv_aload_n hx hb dX6_stuck_11 rfl (lv_at hl 0 rfl) ?_
  refine va_get (D := D) (ci := 5) (v := .int (vW 12)) (C := RX6) (T := TX6) (N := 13) hx hb ht0 niX6 hown hK hP 0 rfl rfl 12 (by decide) (ht0 _ wd136) (fun _ h9 => h9) rfl dX6_stuck_12 ?_
  refine lv_iconst (v := -1) hx hb dX6_stuck_15 (by decide) ?_
  refine lv_ixor hx hb dX6_stuck_16 ?_
  refine lv_iand hx hb dX6_stuck_17 ?_
  refine lv_aload_n hx hb dX6_stuck_18 rfl (lv_at hl 0 rfl) ?_
  refine va_get (D := D) (ci := 5) (v := .int (vW 11)) (C := RX6) (T := TX6) (N := 13) hx hb ht0 niX6 hown hK hP 0 rfl rfl 11 (by decide) (ht0 _ wd131) (fun _ h9 => h9) rfl dX6_stuck_19 ?_
  refine lv_iconst (v := -1) hx hb dX6_stuck_22 (by decide) ?_
  refine lv_ixor hx hb dX6_stuck_23 ?_
  refine lv_iand hx hb dX6_stuck_24 ?_
  cases hok
  exact W.iret hx hb hr (fun t ht hW => ⟨⟨_, (), rfl, rfl, by rw [ht]; exact hP, va_K.moved hW.alike hK, hD⟩, hS.F ht⟩) hS.2.2 dX6_stuck_25
def wsX6_passDamp : List Cond := .code yX6_passDamp cX6_passDamp 3 none :: W0
abbrev wX6_passDamp (cy : Nat → ClassId) (aW : Nat) (qW : Nat → Nat) (aH : Nat) (qH : Nat → Nat) (fvW_4 : Nat) (vW : Nat → Int32) (vH : Nat → Int32) (vW_cells : Nat → Int32) (vH_next : Nat → Int32) (vW_who : Nat → Int32) (vW_inFront : Nat → Int32) (vH_sizes : Nat → Int32) (vH_width : Nat → Int32) (vH_kinds : Nat → Int32) : va_W := [(aW, oX6 vW qW fvW_4), (aH, oX4 vH qH), (qW 0, rI cy 7 vW_cells), (qH 10, rI cy 36 vH_next), (qW 1, rI cy 36 vW_who), (qW 2, rI cy 7 vW_inFront), (qH 15, rI cy 7 vH_sizes), (qH 11, rI cy 36 vH_width), (qH 14, rI cy 7 vH_kinds)]
set_option maxHeartbeats 4000000 in
set_option maxRecDepth 100000 in
theorem kX6_passDamp (l : Launch) (D : va_G) (cy : Nat → ClassId) (sz : Nat) (aW : Nat) (qW : Nat → Nat) (aH : Nat) (qH : Nat → Nat) (vW : Nat → Int32) (vH : Nat → Int32) (vW_cells : Nat → Int32) (vH_next : Nat → Int32) (vW_who : Nat → Int32) (vW_inFront : Nat → Int32) (vH_sizes : Nat → Int32) (vH_width : Nat → Int32) (vH_kinds : Nat → Int32) (z_vW : Nat → Int32) (z_vW_cells : Nat → Int32) (z_vW_who : Nat → Int32) (z_vW_inFront : Nat → Int32) (hok : fX6_passDamp vW vH vW_cells vH_next vW_who vW_inFront vH_sizes vH_width vH_kinds = some (z_vW, z_vW_cells, z_vW_who, z_vW_inFront)) (A : Nat → Prop) (hAe : va_A (wX6_passDamp cy aW qW aH qH aH vW vH vW_cells vH_next vW_who vW_inFront vH_sizes vH_width vH_kinds) sz = A) : Met l yX6_passDamp wsX6_passDamp ({ frames := 3, cells := 0, slots := 0, locals := 73 } : Room) (kPre D cy [.ref aW] (wX6_passDamp cy aW qW aH qH aH vW vH vW_cells vH_next vW_who vW_inFront vH_sizes vH_width vH_kinds) sz) (kQv D cy A (wX6_passDamp cy aW qW aH qH aH z_vW vH z_vW_cells vH_next z_vW_who z_vW_inFront vH_sizes vH_width vH_kinds)) 0 0 A := by
  refine Met.ofW (cc := cX6_passDamp) (maxL := 3) (ret := none) (by decide) rfl ?_
  intro p e s m args below meth c s₁ B hml hv
  obtain ⟨rfl, hsz, hP, hK, hD0, hN⟩ := hv
  have hx := B.exec
  have hb := B.bytes
  have hr := B.returns
  have ht0 : ∀ w ∈ W0, w.before _ s = true := fun w h => atoms_spec (ws := wsX6_passDamp) B.pre w (List.mem_cons_of_mem _ h)
  have hown : s.vm.findClass RX6 = some m.cls := findClass_of_methodNamed B.named
  have hlocks := B.notSynchronized
  subst hsz
  have hD : va_D A (wX6_passDamp cy aW qW aH qH aH vW vH vW_cells vH_next vW_who vW_inFront vH_sizes vH_width vH_kinds) := by rw [← hAe]; exact hD0.self
  have hA : ∀ q : Nat, s.heap.size ≤ q → A q := fun q h => by rw [← hAe]; exact Or.inr h
  have hS : va_S A s.heap s.heap [] := va_S.rf
  have hl := lv_entry ([.ref aW]) (n := 3) (Nat.le_of_ble_eq_true rfl)
  rw [lg_entry_eq]
  generalize (lg_sl ([.ref aW]) ++ List.replicate (3 - (lg_sl ([.ref aW])).length) Slot.unset).toArray = ls at hl ⊢
  have hl : lv_has ls 3 [(0, .ref aW)] := hl
  generalize hQe : MQ below (kQv D cy A (wX6_passDamp cy aW qW aH qH aH z_vW vH z_vW_cells vH_next z_vW_who z_vW_inFront vH_sizes vH_width vH_kinds)) ([.ref aW] : List Value).toArray s 0 0 A = Q
  have J71 : ∀ (y1_71 : Int32) (vW_71 : Nat → Int32), ∀ (H : Heap) (locs : List Loc) (ls : Array Slot), va_P D vwCl (wX6_passDamp cy aW qW aH qH aH vW_71 vH vW_cells vH_next vW_who vW_inFront vH_sizes vH_width vH_kinds) H → va_D A (wX6_passDamp cy aW qW aH qH aH vW_71 vH vW_cells vH_next vW_who vW_inFront vH_sizes vH_width vH_kinds) → va_S A s.heap H locs → lv_has ls 3 [(0, .ref aW), (1, .int y1_71)] → fX6_passDamp_J71 vH vW_cells vH_next vW_who vW_inFront vH_sizes vH_width vH_kinds y1_71 vW_71 = some (z_vW, z_vW_cells, z_vW_who, z_vW_inFront) → W p l e ({ frames := 3, cells := 0, slots := 0, locals := 73 } : Room) s m ([.ref aW] : List Value).toArray below meth c H locs 0 0 Q (F0 m 71 ls []) := by
    intro y1_71 vW_71 H locs ls hP hD hS hl hok
    unfold fX6_passDamp_J71 at hok
    refine lv_aload_n hx hb dX6_passDamp_71 rfl (lv_at hl 0 rfl) ?_
    refine lv_iload_n hx hb dX6_passDamp_72 rfl (lv_at hl 1 rfl) ?_
    obtain ⟨⟨vW_73, vW_cells_73, vW_who_73, vW_inFront_73⟩, hc73, hok⟩ := k_bind hok
    try dsimp only at hok
    refine kCv (wc := (wX6_pass cy aW qW aH qH aH vW_71 vH vW_cells vH_next vW_who vW_inFront vH_sizes vH_width vH_kinds)) (wc2 := (wX6_pass cy aW qW aH qH aH vW_73 vH vW_cells_73 vH_next vW_who_73 vW_inFront_73 vH_sizes vH_width vH_kinds)) (wr := []) (ws2 := (wX6_passDamp cy aW qW aH qH aH vW_73 vH vW_cells_73 vH_next vW_who_73 vW_inFront_73 vH_sizes vH_width vH_kinds)) (kRunV (As := [.int y1_71]) (rest := []) ⟨hx, hb, hml, hown, ht0⟩ (kX6_pass l D cy _ aW qW aH qH vW_71 vH vW_cells vH_next vW_who vW_inFront vH_sizes vH_width vH_kinds y1_71 vW_73 vW_cells_73 vW_who_73 vW_inFront_73 hc73 _ rfl) (cwV 1 ht0 (gV wd154 wd155 wd156 wd114 wd157) rfl rfl rfl (by decide +kernel) ⟨Nat.le_of_ble_eq_true rfl, Nat.le_of_ble_eq_true rfl⟩) hK hN hP hD [0, 1, 2, 3, 4, 5, 6, 7, 8] rfl (by decide) 0 5 rfl rfl rfl hl.1 rfl (Nat.le_of_ble_eq_true rfl) dX6_passDamp_73 ⟨Nat.zero_le _, Nat.zero_le _⟩) hP hD hS hA [0, 1, 2, 3, 4, 5, 6, 7, 8] [] rfl rfl (by decide) (by decide) [0, 1, 2, 3, 4, 5, 6, 7, 8] (by decide) rfl rfl (fun H locs hP hD hS => ?_)
    cases hok
    subst hQe; exact W.vret hx hb hr (fun t ht hW => ⟨⟨(), rfl, trivial, by rw [ht]; exact hP, va_K.moved hW.alike hK, hD⟩, hS.F ht⟩) hS.2.2 dX6_passDamp_76
  have L4 : ∀ (fuel : Nat) (y1_4 : Int32) (y2_4 : Int32) (vW_4 : Nat → Int32), ∀ (H : Heap) (locs : List Loc) (ls : Array Slot), va_P D vwCl (wX6_passDamp cy aW qW aH qH aH vW_4 vH vW_cells vH_next vW_who vW_inFront vH_sizes vH_width vH_kinds) H → va_D A (wX6_passDamp cy aW qW aH qH aH vW_4 vH vW_cells vH_next vW_who vW_inFront vH_sizes vH_width vH_kinds) → va_S A s.heap H locs → lv_has ls 3 [(0, .ref aW), (1, .int y1_4), (2, .int y2_4)] → lp (fX6_passDamp_B4 vH vW_cells vH_next vW_who vW_inFront vH_sizes vH_width vH_kinds) fuel (y1_4, y2_4, vW_4) = some (z_vW, z_vW_cells, z_vW_who, z_vW_inFront) → W p l e ({ frames := 3, cells := 0, slots := 0, locals := 73 } : Room) s m ([.ref aW] : List Value).toArray below meth c H locs 0 0 Q (F0 m 4 ls []) := by
    intro fuel
    induction fuel with
    | zero => intro y1_4 y2_4 vW_4 H locs ls hP hD hS hl hok; exact (lp_0 hok).elim
    | succ fuel ih4 =>
      intro y1_4 y2_4 vW_4 H locs ls hP hD hS hl hok
      obtain ⟨y4, hok, hL4, hR4⟩ := lp_step hok
      have J63 : ∀ (t0_63 : Int32), ∀ (H : Heap) (locs : List Loc) (ls : Array Slot), va_P D vwCl (wX6_passDamp cy aW qW aH qH aH (upd vW_4 10 (irm (((75 : Int32) * (vW_4 10)) + (74 : Int32)) (65537 : Int32))) vH vW_cells vH_next vW_who vW_inFront vH_sizes vH_width vH_kinds) H → va_D A (wX6_passDamp cy aW qW aH qH aH (upd vW_4 10 (irm (((75 : Int32) * (vW_4 10)) + (74 : Int32)) (65537 : Int32))) vH vW_cells vH_next vW_who vW_inFront vH_sizes vH_width vH_kinds) → va_S A s.heap H locs → lv_has ls 3 [(0, .ref aW), (2, .int y2_4)] → fX6_passDamp_J63 y1_4 y2_4 vW_4 t0_63 = some y4 → W p l e ({ frames := 3, cells := 0, slots := 0, locals := 73 } : Room) s m ([.ref aW] : List Value).toArray below meth c H locs 0 0 Q (F0 m 63 ls [.int t0_63, .int y1_4]) := by
        intro t0_63 H locs ls hP hD hS hl hok
        unfold fX6_passDamp_J63 at hok
        refine lv_ior hx hb dX6_passDamp_63 ?_
        refine lv_istore_n (lv' := [(1, .int (y1_4 ||| t0_63)), (0, .ref aW), (2, .int y2_4)]) hx hb dX6_passDamp_64 rfl hl (by decide) rfl (fun ls hl => ?_)
        refine lv_iinc (v := (y2_4 + 1)) (lv' := [(2, .int (y2_4 + 1)), (1, .int (y1_4 ||| t0_63)), (0, .ref aW)]) hx hb dX6_passDamp_65 hl (k := 2) rfl (by first | rfl | decide) (by decide) rfl (fun ls hl => ?_)
        refine lv_goto (tgt := 4) hx hb dX6_passDamp_68 (by decide) ?_
        exact ih4 (y1_4 ||| t0_63) (y2_4 + 1) (upd vW_4 10 (irm (((75 : Int32) * (vW_4 10)) + (74 : Int32)) (65537 : Int32))) H locs ls hP hD hS (lv_sub hl [2, 1, 0] rfl) (hR4 _ (Option.some.inj hok).symm)
      unfold fX6_passDamp_B4 at hok
      try dsimp only at hok
      refine lv_iload_n hx hb dX6_passDamp_4 rfl (lv_at hl 2 rfl) ?_
      refine lv_aload_n hx hb dX6_passDamp_5 rfl (lv_at hl 0 rfl) ?_
      refine va_get (D := D) (ci := 5) (v := .ref aH) (C := RX6) (T := TX6) (N := 13) hx hb ht0 niX6 hown hK hP 0 rfl rfl 4 (by decide) (ht0 _ wd101) (fun _ h9 => h9) rfl dX6_passDamp_6 ?_
      refine va_get (D := D) (ci := 3) (v := .int (vH 5)) (C := RX4) (T := TX4) (N := 20) hx hb ht0 niX4 hown hK hP 1 rfl rfl 5 (by decide) (ht0 _ wd107) (fun _ h9 => h9) rfl dX6_passDamp_9 ?_
      refine lv_icmp_ge (tgt := 71) hx hb dX6_passDamp_12 (by decide) (fun c12 => ?_) (fun c12 => ?_)
      · have hok := k_pos c12 hok
        obtain ⟨e4, hok, he4⟩ := ex_some hok
        have hok := hok.trans (congrArg some (hL4 _ he4))
        exact J71 y1_4 vW_4 H locs ls hP hD hS (lv_sub hl [0, 1] rfl) hok
      · have hok := k_neg c12 hok
        refine lv_iload_n hx hb dX6_passDamp_15 rfl (lv_at hl 2 rfl) ?_
        refine lv_bipush (v := 7) hx hb dX6_passDamp_16 (by decide) ?_
        refine lv_icmp_ge (tgt := 71) hx hb dX6_passDamp_18 (by decide) (fun c18 => ?_) (fun c18 => ?_)
        · have hok := k_pos c18 hok
          obtain ⟨e4, hok, he4⟩ := ex_some hok
          have hok := hok.trans (congrArg some (hL4 _ he4))
          exact J71 y1_4 vW_4 H locs ls hP hD hS (lv_sub hl [0, 1] rfl) hok
        · have hok := k_neg c18 hok
          refine lv_aload_n hx hb dX6_passDamp_21 rfl (lv_at hl 0 rfl) ?_
          refine lv_bipush (v := 75) hx hb dX6_passDamp_22 (by decide) ?_
          refine lv_aload_n hx hb dX6_passDamp_24 rfl (lv_at hl 0 rfl) ?_
          refine va_get (D := D) (ci := 5) (v := .int (vW_4 10)) (C := RX6) (T := TX6) (N := 13) hx hb ht0 niX6 hown hK hP 0 rfl rfl 10 (by decide) (ht0 _ wd473) (fun _ h9 => h9) rfl dX6_passDamp_25 ?_
          refine lv_imul hx hb dX6_passDamp_28 ?_
          refine lv_bipush (v := 74) hx hb dX6_passDamp_29 (by decide) ?_
          refine lv_iadd hx hb dX6_passDamp_31 ?_
          refine lv_ldc (v := 65537) hx hb hown (ht0 _ wd474) dX6_passDamp_32 ?_
          refine lv_irem hx hb dX6_passDamp_34 (by decide) ?_
          refine va_put (D := D) (ci := 5) (v := .int (irm (((75 : Int32) * (vW_4 10)) + (74 : Int32)) (65537 : Int32))) (ty := .int) (C := RX6) (T := TX6) (N := 13) hx hb ht0 niX6 tyX6 tyX6_ok nmX6 hown hK hP hD hS 0 rfl rfl 10 (by decide) (ht0 _ wd473) (fun _ h9 => h9) rfl (by decide +kernel) rfl rfl (Nat.le_of_ble_eq_true rfl) dX6_passDamp_35 (fun H locs hP hD hS => ?_)
          have hP : va_P D vwCl (wX6_passDamp cy aW qW aH qH aH (upd vW_4 10 (irm (((75 : Int32) * (vW_4 10)) + (74 : Int32)) (65537 : Int32))) vH vW_cells vH_next vW_who vW_inFront vH_sizes vH_width vH_kinds) H := hP
          have hD : va_D A (wX6_passDamp cy aW qW aH qH aH (upd vW_4 10 (irm (((75 : Int32) * (vW_4 10)) + (74 : Int32)) (65537 : Int32))) vH vW_cells vH_next vW_who vW_inFront vH_sizes vH_width vH_kinds) := hD
          refine lv_iload_n hx hb dX6_passDamp_38 rfl (lv_at hl 1 rfl) ?_
          refine lv_aload_n hx hb dX6_passDamp_39 rfl (lv_at hl 0 rfl) ?_
          refine va_get (D := D) (ci := 5) (v := .int (irm (((75 : Int32) * (vW_4 10)) + (74 : Int32)) (65537 : Int32))) (C := RX6) (T := TX6) (N := 13) hx hb ht0 niX6 hown hK hP 0 rfl rfl 10 (by decide) (ht0 _ wd473) (fun _ h9 => h9) rfl dX6_passDamp_40 ?_
          refine lv_bipush (v := 100) hx hb dX6_passDamp_43 (by decide) ?_
          refine lv_irem hx hb dX6_passDamp_45 (by decide) ?_
          refine lv_aload_n hx hb dX6_passDamp_46 rfl (lv_at hl 0 rfl) ?_
          refine va_get (D := D) (ci := 5) (v := .ref aH) (C := RX6) (T := TX6) (N := 13) hx hb ht0 niX6 hown hK hP 0 rfl rfl 4 (by decide) (ht0 _ wd101) (fun _ h9 => h9) rfl dX6_passDamp_47 ?_
          refine va_get (D := D) (ci := 3) (v := .int (vH 1)) (C := RX4) (T := TX4) (N := 20) hx hb ht0 niX4 hown hK hP 1 rfl rfl 1 (by decide) (ht0 _ wd475) (fun _ h9 => h9) rfl dX6_passDamp_50 ?_
          refine lv_icmp_ge (tgt := 62) hx hb dX6_passDamp_53 (by decide) (fun c53 => ?_) (fun c53 => ?_)
          · have hok := k_pos c53 hok
            refine lv_iconst (v := 0) hx hb dX6_passDamp_62 (by decide) ?_
            exact J63 (0 : Int32) H locs ls hP hD hS (lv_sub hl [0, 2] rfl) hok
          · have hok := k_neg c53 hok
            refine lv_iconst (v := 1) hx hb dX6_passDamp_56 (by decide) ?_
            refine lv_iload_n hx hb dX6_passDamp_57 rfl (lv_at hl 2 rfl) ?_
            refine lv_ishl hx hb dX6_passDamp_58 ?_
            refine lv_goto (tgt := 63) hx hb dX6_passDamp_59 (by decide) ?_
            exact J63 (isl (1 : Int32) y2_4) H locs ls hP hD hS (lv_sub hl [0, 2] rfl) hok
  unfold fX6_passDamp at hok
  obtain ⟨H, hH⟩ : ∃ H, H = s.heap := ⟨_, rfl⟩
  obtain ⟨locs, hlc⟩ : ∃ x : List Loc, x = [] := ⟨_, rfl⟩
  have hP : va_P D vwCl (wX6_passDamp cy aW qW aH qH aH vW vH vW_cells vH_next vW_who vW_inFront vH_sizes vH_width vH_kinds) H := by rw [hH]; exact hP
  have hS : va_S A s.heap H locs := by rw [hH, hlc]; exact hS
  rw [show W p l e _ s m _ below meth c s.heap [] = W p l e _ s m _ below meth c H locs from by rw [hH, hlc]]
  refine lv_iconst (v := 0) hx hb dX6_passDamp_0 (by decide) ?_
  refine lv_istore_n (lv' := [(1, .int 0), (0, .ref aW)]) hx hb dX6_passDamp_1 rfl hl (by decide) rfl (fun ls hl => ?_)
  refine lv_iconst (v := 0) hx hb dX6_passDamp_2 (by decide) ?_
  refine lv_istore_n (lv' := [(2, .int 0), (1, .int 0), (0, .ref aW)]) hx hb dX6_passDamp_3 rfl hl (by decide) rfl (fun ls hl => ?_)
  exact L4 5000 (0 : Int32) (0 : Int32) vW H locs ls hP hD hS (lv_sub hl [2, 1, 0] rfl) hok
def wsX6_isAsIn : List Cond := .code yX6_isAsIn cX6_isAsIn 3 (some .boolean) :: W0
abbrev wX6_isAsIn (cy : Nat → ClassId) (aW : Nat) (aD : Nat) (qW : Nat → Nat) (aH : Nat) (qH : Nat → Nat) (qD : Nat → Nat) (fvW_4 : Nat) (vW : Nat → Int32) (vH : Nat → Int32) (vW_cells : Nat → Int32) (vD : Nat → Int32) (vD_now : Nat → Int32) : va_W := [(aW, oX6 vW qW fvW_4), (aH, oX4 vH qH), (qW 0, rI cy 7 vW_cells), (aD, oX1 vD qD), (qD 0, rI cy 9 vD_now)]
set_option maxHeartbeats 4000000 in
set_option maxRecDepth 100000 in
theorem kX6_isAsIn (l : Launch) (D : va_G) (cy : Nat → ClassId) (sz : Nat) (aW : Nat) (aD : Nat) (qW : Nat → Nat) (aH : Nat) (qH : Nat → Nat) (qD : Nat → Nat) (vW : Nat → Int32) (vH : Nat → Int32) (vW_cells : Nat → Int32) (vD : Nat → Int32) (vD_now : Nat → Int32) (zr : Int32) (hok : fX6_isAsIn vW vH vW_cells vD vD_now = some zr) (A : Nat → Prop) (hAe : va_A (wX6_isAsIn cy aW aD qW aH qH qD aH vW vH vW_cells vD vD_now) sz = A) : Met l yX6_isAsIn wsX6_isAsIn ({ frames := 1, cells := 0, slots := 0, locals := 21 } : Room) (kPre D cy [.ref aW, .ref aD] (wX6_isAsIn cy aW aD qW aH qH qD aH vW vH vW_cells vD vD_now) sz) (kQi D cy zr A (wX6_isAsIn cy aW aD qW aH qH qD aH vW vH vW_cells vD vD_now)) 0 0 A := by
  refine Met.ofW (cc := cX6_isAsIn) (maxL := 3) (ret := (some .boolean)) (by decide) rfl ?_
  intro p e s m args below meth c s₁ B hml hv
  obtain ⟨rfl, hsz, hP, hK, hD0, hN⟩ := hv
  have hx := B.exec
  have hb := B.bytes
  have hr := B.returns
  have ht0 : ∀ w ∈ W0, w.before _ s = true := fun w h => atoms_spec (ws := wsX6_isAsIn) B.pre w (List.mem_cons_of_mem _ h)
  have hown : s.vm.findClass RX6 = some m.cls := findClass_of_methodNamed B.named
  have hlocks := B.notSynchronized
  subst hsz
  have hD : va_D A (wX6_isAsIn cy aW aD qW aH qH qD aH vW vH vW_cells vD vD_now) := by rw [← hAe]; exact hD0.self
  have hA : ∀ q : Nat, s.heap.size ≤ q → A q := fun q h => by rw [← hAe]; exact Or.inr h
  have hS : va_S A s.heap s.heap [] := va_S.rf
  have hl := lv_entry ([.ref aW, .ref aD]) (n := 3) (Nat.le_of_ble_eq_true rfl)
  rw [lg_entry_eq]
  generalize (lg_sl ([.ref aW, .ref aD]) ++ List.replicate (3 - (lg_sl ([.ref aW, .ref aD])).length) Slot.unset).toArray = ls at hl ⊢
  have hl : lv_has ls 3 [(0, .ref aW), (1, .ref aD)] := hl
  generalize hQe : MQ below (kQi D cy zr A (wX6_isAsIn cy aW aD qW aH qH qD aH vW vH vW_cells vD vD_now)) ([.ref aW, .ref aD] : List Value).toArray s 0 0 A = Q
  have J41 : ∀ (H : Heap) (locs : List Loc) (ls : Array Slot), va_P D vwCl (wX6_isAsIn cy aW aD qW aH qH qD aH vW vH vW_cells vD vD_now) H → va_D A (wX6_isAsIn cy aW aD qW aH qH qD aH vW vH vW_cells vD vD_now) → va_S A s.heap H locs → lv_has ls 3 [] → fX6_isAsIn_J41 = some zr → W p l e ({ frames := 1, cells := 0, slots := 0, locals := 21 } : Room) s m ([.ref aW, .ref aD] : List Value).toArray below meth c H locs 0 0 Q (F0 m 41 ls []) := by
    intro  H locs ls hP hD hS hl hok
    unfold fX6_isAsIn_J41 at hok
    refine lv_iconst (v := 1) hx hb dX6_isAsIn_41 (by decide) ?_
    cases hok
    subst hQe; exact W.zret hx hb hr rfl (fun t ht hW => ⟨⟨_, (), rfl, rfl, by rw [ht]; exact hP, va_K.moved hW.alike hK, hD⟩, hS.F ht⟩) hS.2.2 dX6_isAsIn_42
  have L2 : ∀ (fuel : Nat) (y2_2 : Int32), ∀ (H : Heap) (locs : List Loc) (ls : Array Slot), va_P D vwCl (wX6_isAsIn cy aW aD qW aH qH qD aH vW vH vW_cells vD vD_now) H → va_D A (wX6_isAsIn cy aW aD qW aH qH qD aH vW vH vW_cells vD vD_now) → va_S A s.heap H locs → lv_has ls 3 [(0, .ref aW), (1, .ref aD), (2, .int y2_2)] → lp (fX6_isAsIn_B2 vH vW_cells vD vD_now) fuel y2_2 = some zr → W p l e ({ frames := 1, cells := 0, slots := 0, locals := 21 } : Room) s m ([.ref aW, .ref aD] : List Value).toArray below meth c H locs 0 0 Q (F0 m 2 ls []) := by
    intro fuel
    induction fuel with
    | zero => intro y2_2 H locs ls hP hD hS hl hok; exact (lp_0 hok).elim
    | succ fuel ih2 =>
      intro y2_2 H locs ls hP hD hS hl hok
      obtain ⟨y2, hok, hL2, hR2⟩ := lp_step hok
      unfold fX6_isAsIn_B2 at hok
      refine lv_iload_n hx hb dX6_isAsIn_2 rfl (lv_at hl 2 rfl) ?_
      refine lv_aload_n hx hb dX6_isAsIn_3 rfl (lv_at hl 0 rfl) ?_
      refine va_get (D := D) (ci := 5) (v := .ref aH) (C := RX6) (T := TX6) (N := 13) hx hb ht0 niX6 hown hK hP 0 rfl rfl 4 (by decide) (ht0 _ wd101) (fun _ h9 => h9) rfl dX6_isAsIn_4 ?_
      refine va_get (D := D) (ci := 3) (v := .int (vH 5)) (C := RX4) (T := TX4) (N := 20) hx hb ht0 niX4 hown hK hP 1 rfl rfl 5 (by decide) (ht0 _ wd107) (fun _ h9 => h9) rfl dX6_isAsIn_7 ?_
      refine lv_icmp_ge (tgt := 41) hx hb dX6_isAsIn_10 (by decide) (fun c10 => ?_) (fun c10 => ?_)
      · have hok := k_pos c10 hok
        obtain ⟨e2, hok, he2⟩ := ex_some hok
        have hok := hok.trans (congrArg some (hL2 _ he2))
        exact J41  H locs ls hP hD hS (lv_sub hl [] rfl) hok
      · have hok := k_neg c10 hok
        refine lv_iload_n hx hb dX6_isAsIn_13 rfl (lv_at hl 2 rfl) ?_
        refine lv_bipush (v := 7) hx hb dX6_isAsIn_14 (by decide) ?_
        refine lv_icmp_ge (tgt := 41) hx hb dX6_isAsIn_16 (by decide) (fun c16 => ?_) (fun c16 => ?_)
        · have hok := k_pos c16 hok
          obtain ⟨e2, hok, he2⟩ := ex_some hok
          have hok := hok.trans (congrArg some (hL2 _ he2))
          exact J41  H locs ls hP hD hS (lv_sub hl [] rfl) hok
        · have hok := k_neg c16 hok
          refine lv_aload_n hx hb dX6_isAsIn_19 rfl (lv_at hl 0 rfl) ?_
          refine va_get (D := D) (ci := 5) (v := .ref (qW 0)) (C := RX6) (T := TX6) (N := 13) hx hb ht0 niX6 hown hK hP 0 rfl rfl 0 (by decide) (ht0 _ wd110) (fun _ h9 => h9) rfl dX6_isAsIn_20 ?_
          refine lv_iload_n hx hb dX6_isAsIn_23 rfl (lv_at hl 2 rfl) ?_
          obtain ⟨g24, hok⟩ := gd_some hok
          refine va_iald hx hb hK hP 2 0 rfl rfl (okI_in g24) dX6_isAsIn_24 ?_
          refine lv_aload_n hx hb dX6_isAsIn_25 rfl (lv_at hl 1 rfl) ?_
          refine lv_iload_n hx hb dX6_isAsIn_26 rfl (lv_at hl 2 rfl) ?_
          obtain ⟨r27, hc27, hok⟩ := k_bind hok
          refine kCi (wc := (wX1_cellOf cy aD qD vD vD_now)) (wc2 := (wX1_cellOf cy aD qD vD vD_now)) (wr := [(aW, oX6 vW qW aH), (aH, oX4 vH qH), (qW 0, rI cy 7 vW_cells)]) (ws2 := (wX6_isAsIn cy aW aD qW aH qH qD aH vW vH vW_cells vD vD_now)) (kRunV (As := [.int y2_2]) (rest := [.int (vW_cells y2_2.toNatClampNeg)]) ⟨hx, hb, hml, hown, ht0⟩ (kX1_cellOf l D cy _ aD qD vD vD_now y2_2 r27 hc27 _ rfl) (cwV 1 ht0 (gV wd108 wd82 wd83 wd74 wd84) rfl rfl rfl (by decide +kernel) ⟨Nat.le_of_ble_eq_true rfl, Nat.le_of_ble_eq_true rfl⟩) hK hN hP hD [3, 4] rfl (by decide) 3 1 rfl rfl rfl hl.1 rfl (Nat.le_of_ble_eq_true rfl) dX6_isAsIn_27 ⟨Nat.zero_le _, Nat.zero_le _⟩) hP hD hS hA [3, 4] [0, 1, 2] rfl rfl (by decide) (by decide) [0, 1, 2, 3, 4] (by decide) rfl rfl (fun H locs hP hD hS => ?_)
          refine lv_icmp_eq (tgt := 35) hx hb dX6_isAsIn_30 (by decide) (fun c30 => ?_) (fun c30 => ?_)
          · have hok := k_pos c30 hok
            refine lv_iinc (v := (y2_2 + 1)) (lv' := [(2, .int (y2_2 + 1)), (0, .ref aW), (1, .ref aD)]) hx hb dX6_isAsIn_35 hl (k := 2) rfl (by first | rfl | decide) (by decide) rfl (fun ls hl => ?_)
            refine lv_goto (tgt := 2) hx hb dX6_isAsIn_38 (by decide) ?_
            exact ih2 (y2_2 + 1) H locs ls hP hD hS (lv_sub hl [1, 2, 0] rfl) (hR2 _ (Option.some.inj hok).symm)
          · have hok := k_neg c30 hok
            obtain ⟨e2, hok, he2⟩ := ex_some hok
            have hok := hok.trans (congrArg some (hL2 _ he2))
            refine lv_iconst (v := 0) hx hb dX6_isAsIn_33 (by decide) ?_
            cases hok
            subst hQe; exact W.zret hx hb hr rfl (fun t ht hW => ⟨⟨_, (), rfl, rfl, by rw [ht]; exact hP, va_K.moved hW.alike hK, hD⟩, hS.F ht⟩) hS.2.2 dX6_isAsIn_34
  unfold fX6_isAsIn at hok
  obtain ⟨H, hH⟩ : ∃ H, H = s.heap := ⟨_, rfl⟩
  obtain ⟨locs, hlc⟩ : ∃ x : List Loc, x = [] := ⟨_, rfl⟩
  have hP : va_P D vwCl (wX6_isAsIn cy aW aD qW aH qH qD aH vW vH vW_cells vD vD_now) H := by rw [hH]; exact hP
  have hS : va_S A s.heap H locs := by rw [hH, hlc]; exact hS
  rw [show W p l e _ s m _ below meth c s.heap [] = W p l e _ s m _ below meth c H locs from by rw [hH, hlc]]
  refine lv_iconst (v := 0) hx hb dX6_isAsIn_0 (by decide) ?_
  refine lv_istore_n (lv' := [(2, .int 0), (0, .ref aW), (1, .ref aD)]) hx hb dX6_isAsIn_1 rfl hl (by decide) rfl (fun ls hl => ?_)
  exact L2 5000 (0 : Int32) H locs ls hP hD hS (lv_sub hl [1, 2, 0] rfl) hok
def wsX6_pairAt : List Cond := .code yX6_pairAt cX6_pairAt 4 (some .int) :: W0
abbrev wX6_pairAt (cy : Nat → ClassId) (aW : Nat) (qW : Nat → Nat) (aH : Nat) (qH : Nat → Nat) (fvW_4 : Nat) (vW : Nat → Int32) (vH : Nat → Int32) (vH_doorOne : Nat → Int32) (vH_doorTwo : Nat → Int32) (vW_who : Nat → Int32) : va_W := [(aW, oX6 vW qW fvW_4), (aH, oX4 vH qH), (qH 12, rI cy 5 vH_doorOne), (qH 13, rI cy 5 vH_doorTwo), (qW 1, rI cy 36 vW_who)]
set_option maxHeartbeats 4000000 in
set_option maxRecDepth 100000 in
theorem kX6_pairAt (l : Launch) (D : va_G) (cy : Nat → ClassId) (sz : Nat) (aW : Nat) (qW : Nat → Nat) (aH : Nat) (qH : Nat → Nat) (vW : Nat → Int32) (vH : Nat → Int32) (vH_doorOne : Nat → Int32) (vH_doorTwo : Nat → Int32) (vW_who : Nat → Int32) (x1 : Int32) (zr : Int32) (hok : fX6_pairAt vW vH vH_doorOne vH_doorTwo vW_who x1 = some zr) (A : Nat → Prop) (hAe : va_A (wX6_pairAt cy aW qW aH qH aH vW vH vH_doorOne vH_doorTwo vW_who) sz = A) : Met l yX6_pairAt wsX6_pairAt ({ frames := 1, cells := 0, slots := 0, locals := 22 } : Room) (kPre D cy [.ref aW, .int x1] (wX6_pairAt cy aW qW aH qH aH vW vH vH_doorOne vH_doorTwo vW_who) sz) (kQi D cy zr A (wX6_pairAt cy aW qW aH qH aH vW vH vH_doorOne vH_doorTwo vW_who)) 0 0 A := by
  refine Met.ofW (cc := cX6_pairAt) (maxL := 4) (ret := (some .int)) (by decide) rfl ?_
  intro p e s m args below meth c s₁ B hml hv
  obtain ⟨rfl, hsz, hP, hK, hD0, hN⟩ := hv
  have hx := B.exec
  have hb := B.bytes
  have hr := B.returns
  have ht0 : ∀ w ∈ W0, w.before _ s = true := fun w h => atoms_spec (ws := wsX6_pairAt) B.pre w (List.mem_cons_of_mem _ h)
  have hown : s.vm.findClass RX6 = some m.cls := findClass_of_methodNamed B.named
  have hlocks := B.notSynchronized
  subst hsz
  have hD : va_D A (wX6_pairAt cy aW qW aH qH aH vW vH vH_doorOne vH_doorTwo vW_who) := by rw [← hAe]; exact hD0.self
  have hA : ∀ q : Nat, s.heap.size ≤ q → A q := fun q h => by rw [← hAe]; exact Or.inr h
  have hS : va_S A s.heap s.heap [] := va_S.rf
  have hl := lv_entry ([.ref aW, .int x1]) (n := 4) (Nat.le_of_ble_eq_true rfl)
  rw [lg_entry_eq]
  generalize (lg_sl ([.ref aW, .int x1]) ++ List.replicate (4 - (lg_sl ([.ref aW, .int x1])).length) Slot.unset).toArray = ls at hl ⊢
  have hl : lv_has ls 4 [(0, .ref aW), (1, .int x1)] := hl
  generalize hQe : MQ below (kQi D cy zr A (wX6_pairAt cy aW qW aH qH aH vW vH vH_doorOne vH_doorTwo vW_who)) ([.ref aW, .int x1] : List Value).toArray s 0 0 A = Q
  have J36 : ∀ (H : Heap) (locs : List Loc) (ls : Array Slot), va_P D vwCl (wX6_pairAt cy aW qW aH qH aH vW vH vH_doorOne vH_doorTwo vW_who) H → va_D A (wX6_pairAt cy aW qW aH qH aH vW vH vH_doorOne vH_doorTwo vW_who) → va_S A s.heap H locs → lv_has ls 4 [] → fX6_pairAt_J36 = some zr → W p l e ({ frames := 1, cells := 0, slots := 0, locals := 22 } : Room) s m ([.ref aW, .int x1] : List Value).toArray below meth c H locs 0 0 Q (F0 m 36 ls []) := by
    intro  H locs ls hP hD hS hl hok
    unfold fX6_pairAt_J36 at hok
    refine lv_bipush (v := -2) hx hb dX6_pairAt_36 (by decide) ?_
    cases hok
    subst hQe; exact W.iret hx hb hr (fun t ht hW => ⟨⟨_, (), rfl, rfl, by rw [ht]; exact hP, va_K.moved hW.alike hK, hD⟩, hS.F ht⟩) hS.2.2 dX6_pairAt_38
  unfold fX6_pairAt at hok
  obtain ⟨H, hH⟩ : ∃ H, H = s.heap := ⟨_, rfl⟩
  obtain ⟨locs, hlc⟩ : ∃ x : List Loc, x = [] := ⟨_, rfl⟩
  have hP : va_P D vwCl (wX6_pairAt cy aW qW aH qH aH vW vH vH_doorOne vH_doorTwo vW_who) H := by rw [hH]; exact hP
  have hS : va_S A s.heap H locs := by rw [hH, hlc]; exact hS
  rw [show W p l e _ s m _ below meth c s.heap [] = W p l e _ s m _ below meth c H locs from by rw [hH, hlc]]
  refine lv_aload_n hx hb dX6_pairAt_0 rfl (lv_at hl 0 rfl) ?_
  refine lv_aload_n hx hb dX6_pairAt_1 rfl (lv_at hl 0 rfl) ?_
  refine va_get (D := D) (ci := 5) (v := .ref aH) (C := RX6) (T := TX6) (N := 13) hx hb ht0 niX6 hown hK hP 0 rfl rfl 4 (by decide) (ht0 _ wd101) (fun _ h9 => h9) rfl dX6_pairAt_2 ?_
  refine lv_iload_n hx hb dX6_pairAt_5 rfl (lv_at hl 1 rfl) ?_
  refine lv_iconst (v := 0) hx hb dX6_pairAt_6 (by decide) ?_
  obtain ⟨r7, hc7, hok⟩ := k_bind hok
  refine kCi (wc := (wX4_doorSide cy aH qH vH vH_doorOne vH_doorTwo)) (wc2 := (wX4_doorSide cy aH qH vH vH_doorOne vH_doorTwo)) (wr := [(aW, oX6 vW qW aH), (qW 1, rI cy 36 vW_who)]) (ws2 := (wX6_pairAt cy aW qW aH qH aH vW vH vH_doorOne vH_doorTwo vW_who)) (kRunV (As := [.int x1, .int 0]) (rest := [.ref aW]) ⟨hx, hb, hml, hown, ht0⟩ (kX4_doorSide l D cy _ aH qH vH vH_doorOne vH_doorTwo x1 (0 : Int32) r7 hc7 _ rfl) (cwV 2 ht0 (gV wd476 wd477 wd478 wd9 wd479) rfl rfl rfl (by decide +kernel) ⟨Nat.le_of_ble_eq_true rfl, Nat.le_of_ble_eq_true rfl⟩) hK hN hP hD [1, 2, 3] rfl (by decide) 1 3 rfl rfl rfl hl.1 rfl (Nat.le_of_ble_eq_true rfl) dX6_pairAt_7 ⟨Nat.zero_le _, Nat.zero_le _⟩) hP hD hS hA [1, 2, 3] [0, 4] rfl rfl (by decide) (by decide) [0, 2, 3, 4, 1] (by decide) rfl rfl (fun H locs hP hD hS => ?_)
  obtain ⟨r10, hc10, hok⟩ := k_bind hok
  refine kCi (wc := (wX6_thingAt cy aW qW aH aH vW vW_who)) (wc2 := (wX6_thingAt cy aW qW aH aH vW vW_who)) (wr := [(aH, oX4 vH qH), (qH 12, rI cy 5 vH_doorOne), (qH 13, rI cy 5 vH_doorTwo)]) (ws2 := (wX6_pairAt cy aW qW aH qH aH vW vH vH_doorOne vH_doorTwo vW_who)) (kRunV (As := [.int r7]) (rest := []) ⟨hx, hb, hml, hown, ht0⟩ (kX6_thingAt l D cy _ aW qW aH vW vW_who r7 r10 hc10 _ rfl) (cwV 1 ht0 (gV wd142 wd143 wd144 wd114 wd145) rfl rfl rfl (by decide +kernel) ⟨Nat.le_of_ble_eq_true rfl, Nat.le_of_ble_eq_true rfl⟩) hK hN hP hD [0, 4] rfl (by decide) 0 5 rfl rfl rfl hl.1 rfl (Nat.le_of_ble_eq_true rfl) dX6_pairAt_10 ⟨Nat.zero_le _, Nat.zero_le _⟩) hP hD hS hA [0, 4] [1, 2, 3] rfl rfl (by decide) (by decide) [3, 0, 1, 2, 4] (by decide) rfl rfl (fun H locs hP hD hS => ?_)
  refine lv_istore_n (lv' := [(2, .int r10), (0, .ref aW), (1, .int x1)]) hx hb dX6_pairAt_13 rfl hl (by decide) rfl (fun ls hl => ?_)
  refine lv_aload_n hx hb dX6_pairAt_14 rfl (lv_at hl 1 rfl) ?_
  refine lv_aload_n hx hb dX6_pairAt_15 rfl (lv_at hl 1 rfl) ?_
  refine va_get (D := D) (ci := 5) (v := .ref aH) (C := RX6) (T := TX6) (N := 13) hx hb ht0 niX6 hown hK hP 0 rfl rfl 4 (by decide) (ht0 _ wd101) (fun _ h9 => h9) rfl dX6_pairAt_16 ?_
  refine lv_iload_n hx hb dX6_pairAt_19 rfl (lv_at hl 2 rfl) ?_
  refine lv_iconst (v := 1) hx hb dX6_pairAt_20 (by decide) ?_
  obtain ⟨r21, hc21, hok⟩ := k_bind hok
  refine kCi (wc := (wX4_doorSide cy aH qH vH vH_doorOne vH_doorTwo)) (wc2 := (wX4_doorSide cy aH qH vH vH_doorOne vH_doorTwo)) (wr := [(aW, oX6 vW qW aH), (qW 1, rI cy 36 vW_who)]) (ws2 := (wX6_pairAt cy aW qW aH qH aH vW vH vH_doorOne vH_doorTwo vW_who)) (kRunV (As := [.int x1, .int 1]) (rest := [.ref aW]) ⟨hx, hb, hml, hown, ht0⟩ (kX4_doorSide l D cy _ aH qH vH vH_doorOne vH_doorTwo x1 (1 : Int32) r21 hc21 _ rfl) (cwV 2 ht0 (gV wd476 wd477 wd478 wd9 wd479) rfl rfl rfl (by decide +kernel) ⟨Nat.le_of_ble_eq_true rfl, Nat.le_of_ble_eq_true rfl⟩) hK hN hP hD [1, 2, 3] rfl (by decide) 1 3 rfl rfl rfl hl.1 rfl (Nat.le_of_ble_eq_true rfl) dX6_pairAt_21 ⟨Nat.zero_le _, Nat.zero_le _⟩) hP hD hS hA [1, 2, 3] [0, 4] rfl rfl (by decide) (by decide) [0, 2, 3, 4, 1] (by decide) rfl rfl (fun H locs hP hD hS => ?_)
  obtain ⟨r24, hc24, hok⟩ := k_bind hok
  refine kCi (wc := (wX6_thingAt cy aW qW aH aH vW vW_who)) (wc2 := (wX6_thingAt cy aW qW aH aH vW vW_who)) (wr := [(aH, oX4 vH qH), (qH 12, rI cy 5 vH_doorOne), (qH 13, rI cy 5 vH_doorTwo)]) (ws2 := (wX6_pairAt cy aW qW aH qH aH vW vH vH_doorOne vH_doorTwo vW_who)) (kRunV (As := [.int r21]) (rest := []) ⟨hx, hb, hml, hown, ht0⟩ (kX6_thingAt l D cy _ aW qW aH vW vW_who r21 r24 hc24 _ rfl) (cwV 1 ht0 (gV wd142 wd143 wd144 wd114 wd145) rfl rfl rfl (by decide +kernel) ⟨Nat.le_of_ble_eq_true rfl, Nat.le_of_ble_eq_true rfl⟩) hK hN hP hD [0, 4] rfl (by decide) 0 5 rfl rfl rfl hl.1 rfl (Nat.le_of_ble_eq_true rfl) dX6_pairAt_24 ⟨Nat.zero_le _, Nat.zero_le _⟩) hP hD hS hA [0, 4] [1, 2, 3] rfl rfl (by decide) (by decide) [3, 0, 1, 2, 4] (by decide) rfl rfl (fun H locs hP hD hS => ?_)
  refine lv_istore_n (lv' := [(3, .int r24), (2, .int r10), (0, .ref aW), (1, .int x1)]) hx hb dX6_pairAt_27 rfl hl (by decide) rfl (fun ls hl => ?_)
  refine lv_iload_n hx hb dX6_pairAt_28 rfl (lv_at hl 1 rfl) ?_
  refine lv_if_lt (tgt := 36) hx hb dX6_pairAt_29 (by decide) (fun c29 => ?_) (fun c29 => ?_)
  · have hok := k_pos c29 hok
    exact J36  H locs ls hP hD hS (lv_sub hl [] rfl) hok
  · have hok := k_neg c29 hok
    refine lv_iload_n hx hb dX6_pairAt_32 rfl (lv_at hl 0 rfl) ?_
    refine lv_if_ge (tgt := 39) hx hb dX6_pairAt_33 (by decide) (fun c33 => ?_) (fun c33 => ?_)
    · have hok := k_pos c33 hok
      refine lv_bipush (v := 10) hx hb dX6_pairAt_39 (by decide) ?_
      refine lv_iload_n hx hb dX6_pairAt_41 rfl (lv_at hl 1 rfl) ?_
      refine lv_iload_n hx hb dX6_pairAt_42 rfl (lv_at hl 0 rfl) ?_
      refine va_mmin hx hb (hml.trans hl.1.symm) hown (ht0 _ wd480) (ht0 _ wd481) (ht0 _ wd37) (ht0 _ wd482) (Nat.le_of_ble_eq_true rfl) (Nat.le_of_ble_eq_true rfl) (Nat.zero_le _) (Nat.zero_le _) dX6_pairAt_43 ?_
      refine lv_imul hx hb dX6_pairAt_46 ?_
      refine lv_iload_n hx hb dX6_pairAt_47 rfl (lv_at hl 1 rfl) ?_
      refine lv_iload_n hx hb dX6_pairAt_48 rfl (lv_at hl 0 rfl) ?_
      refine va_mmax hx hb (hml.trans hl.1.symm) hown (ht0 _ wd483) (ht0 _ wd36) (ht0 _ wd37) (ht0 _ wd38) (Nat.le_of_ble_eq_true rfl) (Nat.le_of_ble_eq_true rfl) (Nat.zero_le _) (Nat.zero_le _) dX6_pairAt_49 ?_
      refine lv_iadd hx hb dX6_pairAt_52 ?_
      cases hok
      subst hQe; exact W.iret hx hb hr (fun t ht hW => ⟨⟨_, (), rfl, rfl, by rw [ht]; exact hP, va_K.moved hW.alike hK, hD⟩, hS.F ht⟩) hS.2.2 dX6_pairAt_53
    · have hok := k_neg c33 hok
      exact J36  H locs ls hP hD hS (lv_sub hl [] rfl) hok
def wsX6_firstPair : List Cond := .code yX6_firstPair cX6_firstPair 4 (some .int) :: W0
abbrev wX6_firstPair (cy : Nat → ClassId) (aW : Nat) (qW : Nat → Nat) (aH : Nat) (qH : Nat → Nat) (fvW_4 : Nat) (vW : Nat → Int32) (vH : Nat → Int32) (vH_doorOne : Nat → Int32) (vH_doorTwo : Nat → Int32) (vW_who : Nat → Int32) : va_W := [(aW, oX6 vW qW fvW_4), (aH, oX4 vH qH), (qH 12, rI cy 5 vH_doorOne), (qH 13, rI cy 5 vH_doorTwo), (qW 1, rI cy 36 vW_who)]
set_option maxHeartbeats 4000000 in
set_option maxRecDepth 100000 in
theorem kX6_firstPair (l : Launch) (D : va_G) (cy : Nat → ClassId) (sz : Nat) (aW : Nat) (qW : Nat → Nat) (aH : Nat) (qH : Nat → Nat) (vW : Nat → Int32) (vH : Nat → Int32) (vH_doorOne : Nat → Int32) (vH_doorTwo : Nat → Int32) (vW_who : Nat → Int32) (zr : Int32) (hok : fX6_firstPair vW vH vH_doorOne vH_doorTwo vW_who = some zr) (A : Nat → Prop) (hAe : va_A (wX6_firstPair cy aW qW aH qH aH vW vH vH_doorOne vH_doorTwo vW_who) sz = A) : Met l yX6_firstPair wsX6_firstPair ({ frames := 2, cells := 0, slots := 0, locals := 45 } : Room) (kPre D cy [.ref aW] (wX6_firstPair cy aW qW aH qH aH vW vH vH_doorOne vH_doorTwo vW_who) sz) (kQi D cy zr A (wX6_firstPair cy aW qW aH qH aH vW vH vH_doorOne vH_doorTwo vW_who)) 0 0 A := by
  refine Met.ofW (cc := cX6_firstPair) (maxL := 4) (ret := (some .int)) (by decide) rfl ?_
  intro p e s m args below meth c s₁ B hml hv
  obtain ⟨rfl, hsz, hP, hK, hD0, hN⟩ := hv
  have hx := B.exec
  have hb := B.bytes
  have hr := B.returns
  have ht0 : ∀ w ∈ W0, w.before _ s = true := fun w h => atoms_spec (ws := wsX6_firstPair) B.pre w (List.mem_cons_of_mem _ h)
  have hown : s.vm.findClass RX6 = some m.cls := findClass_of_methodNamed B.named
  have hlocks := B.notSynchronized
  subst hsz
  have hD : va_D A (wX6_firstPair cy aW qW aH qH aH vW vH vH_doorOne vH_doorTwo vW_who) := by rw [← hAe]; exact hD0.self
  have hA : ∀ q : Nat, s.heap.size ≤ q → A q := fun q h => by rw [← hAe]; exact Or.inr h
  have hS : va_S A s.heap s.heap [] := va_S.rf
  have hl := lv_entry ([.ref aW]) (n := 4) (Nat.le_of_ble_eq_true rfl)
  rw [lg_entry_eq]
  generalize (lg_sl ([.ref aW]) ++ List.replicate (4 - (lg_sl ([.ref aW])).length) Slot.unset).toArray = ls at hl ⊢
  have hl : lv_has ls 4 [(0, .ref aW)] := hl
  generalize hQe : MQ below (kQi D cy zr A (wX6_firstPair cy aW qW aH qH aH vW vH vH_doorOne vH_doorTwo vW_who)) ([.ref aW] : List Value).toArray s 0 0 A = Q
  have L5 : ∀ (fuel : Nat) (y1_5 : Int32) (y2_5 : Int32), ∀ (H : Heap) (locs : List Loc) (ls : Array Slot), va_P D vwCl (wX6_firstPair cy aW qW aH qH aH vW vH vH_doorOne vH_doorTwo vW_who) H → va_D A (wX6_firstPair cy aW qW aH qH aH vW vH vH_doorOne vH_doorTwo vW_who) → va_S A s.heap H locs → lv_has ls 4 [(0, .ref aW), (1, .int y1_5), (2, .int y2_5)] → lp (fX6_firstPair_B5 vW vH vH_doorOne vH_doorTwo vW_who) fuel (y1_5, y2_5) = some zr → W p l e ({ frames := 2, cells := 0, slots := 0, locals := 45 } : Room) s m ([.ref aW] : List Value).toArray below meth c H locs 0 0 Q (F0 m 5 ls []) := by
    intro fuel
    induction fuel with
    | zero => intro y1_5 y2_5 H locs ls hP hD hS hl hok; exact (lp_0 hok).elim
    | succ fuel ih5 =>
      intro y1_5 y2_5 H locs ls hP hD hS hl hok
      obtain ⟨y5, hok, hL5, hR5⟩ := lp_step hok
      have J39 : ∀ (y1_39 : Int32), ∀ (H : Heap) (locs : List Loc) (ls : Array Slot), va_P D vwCl (wX6_firstPair cy aW qW aH qH aH vW vH vH_doorOne vH_doorTwo vW_who) H → va_D A (wX6_firstPair cy aW qW aH qH aH vW vH vH_doorOne vH_doorTwo vW_who) → va_S A s.heap H locs → lv_has ls 4 [(0, .ref aW), (1, .int y1_39), (2, .int y2_5)] → fX6_firstPair_J39 y2_5 y1_39 = some y5 → W p l e ({ frames := 2, cells := 0, slots := 0, locals := 45 } : Room) s m ([.ref aW] : List Value).toArray below meth c H locs 0 0 Q (F0 m 39 ls []) := by
        intro y1_39 H locs ls hP hD hS hl hok
        unfold fX6_firstPair_J39 at hok
        refine lv_iinc (v := (y2_5 + 1)) (lv' := [(2, .int (y2_5 + 1)), (0, .ref aW), (1, .int y1_39)]) hx hb dX6_firstPair_39 hl (k := 2) rfl (by first | rfl | decide) (by decide) rfl (fun ls hl => ?_)
        refine lv_goto (tgt := 5) hx hb dX6_firstPair_42 (by decide) ?_
        exact ih5 y1_39 (y2_5 + 1) H locs ls hP hD hS (lv_sub hl [1, 2, 0] rfl) (hR5 _ (Option.some.inj hok).symm)
      have J37 : ∀ (y3_37 : Int32), ∀ (H : Heap) (locs : List Loc) (ls : Array Slot), va_P D vwCl (wX6_firstPair cy aW qW aH qH aH vW vH vH_doorOne vH_doorTwo vW_who) H → va_D A (wX6_firstPair cy aW qW aH qH aH vW vH vH_doorOne vH_doorTwo vW_who) → va_S A s.heap H locs → lv_has ls 4 [(0, .ref aW), (2, .int y2_5), (3, .int y3_37)] → fX6_firstPair_J37 y2_5 y3_37 = some y5 → W p l e ({ frames := 2, cells := 0, slots := 0, locals := 45 } : Room) s m ([.ref aW] : List Value).toArray below meth c H locs 0 0 Q (F0 m 37 ls []) := by
        intro y3_37 H locs ls hP hD hS hl hok
        unfold fX6_firstPair_J37 at hok
        refine lv_iload_n hx hb dX6_firstPair_37 rfl (lv_at hl 2 rfl) ?_
        refine lv_istore_n (lv' := [(1, .int y3_37), (0, .ref aW), (2, .int y2_5), (3, .int y3_37)]) hx hb dX6_firstPair_38 rfl hl (by decide) rfl (fun ls hl => ?_)
        exact J39 y3_37 H locs ls hP hD hS (lv_sub hl [1, 0, 2] rfl) hok
      unfold fX6_firstPair_B5 at hok
      try dsimp only at hok
      refine lv_iload_n hx hb dX6_firstPair_5 rfl (lv_at hl 2 rfl) ?_
      refine lv_aload_n hx hb dX6_firstPair_6 rfl (lv_at hl 0 rfl) ?_
      refine va_get (D := D) (ci := 5) (v := .ref aH) (C := RX6) (T := TX6) (N := 13) hx hb ht0 niX6 hown hK hP 0 rfl rfl 4 (by decide) (ht0 _ wd101) (fun _ h9 => h9) rfl dX6_firstPair_7 ?_
      refine va_get (D := D) (ci := 3) (v := .int (vH 4)) (C := RX4) (T := TX4) (N := 20) hx hb ht0 niX4 hown hK hP 1 rfl rfl 4 (by decide) (ht0 _ wd484) (fun _ h9 => h9) rfl dX6_firstPair_10 ?_
      refine lv_icmp_ge (tgt := 45) hx hb dX6_firstPair_13 (by decide) (fun c13 => ?_) (fun c13 => ?_)
      · have hok := k_pos c13 hok
        obtain ⟨e5, hok, he5⟩ := ex_some hok
        have hok := hok.trans (congrArg some (hL5 _ he5))
        refine lv_iload_n hx hb dX6_firstPair_45 rfl (lv_at hl 1 rfl) ?_
        cases hok
        subst hQe; exact W.iret hx hb hr (fun t ht hW => ⟨⟨_, (), rfl, rfl, by rw [ht]; exact hP, va_K.moved hW.alike hK, hD⟩, hS.F ht⟩) hS.2.2 dX6_firstPair_46
      · have hok := k_neg c13 hok
        refine lv_aload_n hx hb dX6_firstPair_16 rfl (lv_at hl 0 rfl) ?_
        refine lv_iload_n hx hb dX6_firstPair_17 rfl (lv_at hl 2 rfl) ?_
        obtain ⟨r18, hc18, hok⟩ := k_bind hok
        refine kCi (wc := (wX6_pairAt cy aW qW aH qH aH vW vH vH_doorOne vH_doorTwo vW_who)) (wc2 := (wX6_pairAt cy aW qW aH qH aH vW vH vH_doorOne vH_doorTwo vW_who)) (wr := []) (ws2 := (wX6_firstPair cy aW qW aH qH aH vW vH vH_doorOne vH_doorTwo vW_who)) (kRunV (As := [.int y2_5]) (rest := []) ⟨hx, hb, hml, hown, ht0⟩ (kX6_pairAt l D cy _ aW qW aH qH vW vH vH_doorOne vH_doorTwo vW_who y2_5 r18 hc18 _ rfl) (cwV 1 ht0 (gV wd485 wd486 wd487 wd114 wd488) rfl rfl rfl (by decide +kernel) ⟨Nat.le_of_ble_eq_true rfl, Nat.le_of_ble_eq_true rfl⟩) hK hN hP hD [0, 1, 2, 3, 4] rfl (by decide) 0 5 rfl rfl rfl hl.1 rfl (Nat.le_of_ble_eq_true rfl) dX6_firstPair_18 ⟨Nat.zero_le _, Nat.zero_le _⟩) hP hD hS hA [0, 1, 2, 3, 4] [] rfl rfl (by decide) (by decide) [0, 1, 2, 3, 4] (by decide) rfl rfl (fun H locs hP hD hS => ?_)
        refine lv_istore_n (lv' := [(3, .int r18), (0, .ref aW), (1, .int y1_5), (2, .int y2_5)]) hx hb dX6_firstPair_21 rfl hl (by decide) rfl (fun ls hl => ?_)
        refine lv_iload_n hx hb dX6_firstPair_22 rfl (lv_at hl 0 rfl) ?_
        refine lv_if_lt (tgt := 39) hx hb dX6_firstPair_23 (by decide) (fun c23 => ?_) (fun c23 => ?_)
        · have hok := k_pos c23 hok
          exact J39 y1_5 H locs ls hP hD hS (lv_sub hl [1, 2, 3] rfl) hok
        · have hok := k_neg c23 hok
          refine lv_iload_n hx hb dX6_firstPair_26 rfl (lv_at hl 2 rfl) ?_
          refine lv_bipush (v := -2) hx hb dX6_firstPair_27 (by decide) ?_
          refine lv_icmp_eq (tgt := 37) hx hb dX6_firstPair_29 (by decide) (fun c29 => ?_) (fun c29 => ?_)
          · have hok := k_pos c29 hok
            exact J37 r18 H locs ls hP hD hS (lv_sub hl [1, 3, 0] rfl) hok
          · have hok := k_neg c29 hok
            refine lv_iload_n hx hb dX6_firstPair_32 rfl (lv_at hl 0 rfl) ?_
            refine lv_iload_n hx hb dX6_firstPair_33 rfl (lv_at hl 2 rfl) ?_
            refine lv_icmp_ge (tgt := 39) hx hb dX6_firstPair_34 (by decide) (fun c34 => ?_) (fun c34 => ?_)
            · have hok := k_pos c34 hok
              exact J39 y1_5 H locs ls hP hD hS (lv_sub hl [1, 2, 3] rfl) hok
            · have hok := k_neg c34 hok
              exact J37 r18 H locs ls hP hD hS (lv_sub hl [1, 3, 0] rfl) hok
  unfold fX6_firstPair at hok
  obtain ⟨H, hH⟩ : ∃ H, H = s.heap := ⟨_, rfl⟩
  obtain ⟨locs, hlc⟩ : ∃ x : List Loc, x = [] := ⟨_, rfl⟩
  have hP : va_P D vwCl (wX6_firstPair cy aW qW aH qH aH vW vH vH_doorOne vH_doorTwo vW_who) H := by rw [hH]; exact hP
  have hS : va_S A s.heap H locs := by rw [hH, hlc]; exact hS
  rw [show W p l e _ s m _ below meth c s.heap [] = W p l e _ s m _ below meth c H locs from by rw [hH, hlc]]
  refine lv_bipush (v := -2) hx hb dX6_firstPair_0 (by decide) ?_
  refine lv_istore_n (lv' := [(1, .int (-2)), (0, .ref aW)]) hx hb dX6_firstPair_2 rfl hl (by decide) rfl (fun ls hl => ?_)
  refine lv_iconst (v := 0) hx hb dX6_firstPair_3 (by decide) ?_
  refine lv_istore_n (lv' := [(2, .int 0), (1, .int (-2)), (0, .ref aW)]) hx hb dX6_firstPair_4 rfl hl (by decide) rfl (fun ls hl => ?_)
  exact L5 5000 (-2 : Int32) (0 : Int32) H locs ls hP hD hS (lv_sub hl [2, 1, 0] rfl) hok
def wsX6_mostPair : List Cond := .code yX6_mostPair cX6_mostPair 5 (some .int) :: W0
abbrev wX6_mostPair (cy : Nat → ClassId) (aW : Nat) (qW : Nat → Nat) (aH : Nat) (qH : Nat → Nat) (fvW_4 : Nat) (vW : Nat → Int32) (vW_pairs : Nat → Int32) (vH : Nat → Int32) (vW_cells : Nat → Int32) (vH_next : Nat → Int32) (vW_who : Nat → Int32) (vW_inFront : Nat → Int32) (vH_sizes : Nat → Int32) (vH_width : Nat → Int32) (vH_kinds : Nat → Int32) (vH_doorOne : Nat → Int32) (vH_doorTwo : Nat → Int32) : va_W := [(aW, oX6 vW qW fvW_4), (qW 3, rI cy 70 vW_pairs), (aH, oX4 vH qH), (qW 0, rI cy 7 vW_cells), (qH 10, rI cy 36 vH_next), (qW 1, rI cy 36 vW_who), (qW 2, rI cy 7 vW_inFront), (qH 15, rI cy 7 vH_sizes), (qH 11, rI cy 36 vH_width), (qH 14, rI cy 7 vH_kinds), (qH 12, rI cy 5 vH_doorOne), (qH 13, rI cy 5 vH_doorTwo)]
set_option maxHeartbeats 4000000 in
set_option maxRecDepth 100000 in
theorem kX6_mostPair (l : Launch) (D : va_G) (cy : Nat → ClassId) (sz : Nat) (aW : Nat) (qW : Nat → Nat) (aH : Nat) (qH : Nat → Nat) (vW : Nat → Int32) (vW_pairs : Nat → Int32) (vH : Nat → Int32) (vW_cells : Nat → Int32) (vH_next : Nat → Int32) (vW_who : Nat → Int32) (vW_inFront : Nat → Int32) (vH_sizes : Nat → Int32) (vH_width : Nat → Int32) (vH_kinds : Nat → Int32) (vH_doorOne : Nat → Int32) (vH_doorTwo : Nat → Int32) (x1 : Int32) (zr : Int32) (z_vW : Nat → Int32) (z_vW_pairs : Nat → Int32) (z_vW_cells : Nat → Int32) (z_vW_who : Nat → Int32) (z_vW_inFront : Nat → Int32) (hok : fX6_mostPair vW vW_pairs vH vW_cells vH_next vW_who vW_inFront vH_sizes vH_width vH_kinds vH_doorOne vH_doorTwo x1 = some (zr, z_vW, z_vW_pairs, z_vW_cells, z_vW_who, z_vW_inFront)) (A : Nat → Prop) (hAe : va_A (wX6_mostPair cy aW qW aH qH aH vW vW_pairs vH vW_cells vH_next vW_who vW_inFront vH_sizes vH_width vH_kinds vH_doorOne vH_doorTwo) sz = A) : Met l yX6_mostPair wsX6_mostPair ({ frames := 3, cells := 0, slots := 0, locals := 73 } : Room) (kPre D cy [.ref aW, .int x1] (wX6_mostPair cy aW qW aH qH aH vW vW_pairs vH vW_cells vH_next vW_who vW_inFront vH_sizes vH_width vH_kinds vH_doorOne vH_doorTwo) sz) (kQi D cy zr A (wX6_mostPair cy aW qW aH qH aH z_vW z_vW_pairs vH z_vW_cells vH_next z_vW_who z_vW_inFront vH_sizes vH_width vH_kinds vH_doorOne vH_doorTwo)) 0 0 A := by
  refine Met.ofW (cc := cX6_mostPair) (maxL := 5) (ret := (some .int)) (by decide) rfl ?_
  intro p e s m args below meth c s₁ B hml hv
  obtain ⟨rfl, hsz, hP, hK, hD0, hN⟩ := hv
  have hx := B.exec
  have hb := B.bytes
  have hr := B.returns
  have ht0 : ∀ w ∈ W0, w.before _ s = true := fun w h => atoms_spec (ws := wsX6_mostPair) B.pre w (List.mem_cons_of_mem _ h)
  have hown : s.vm.findClass RX6 = some m.cls := findClass_of_methodNamed B.named
  have hlocks := B.notSynchronized
  subst hsz
  have hD : va_D A (wX6_mostPair cy aW qW aH qH aH vW vW_pairs vH vW_cells vH_next vW_who vW_inFront vH_sizes vH_width vH_kinds vH_doorOne vH_doorTwo) := by rw [← hAe]; exact hD0.self
  have hA : ∀ q : Nat, s.heap.size ≤ q → A q := fun q h => by rw [← hAe]; exact Or.inr h
  have hS : va_S A s.heap s.heap [] := va_S.rf
  have hl := lv_entry ([.ref aW, .int x1]) (n := 5) (Nat.le_of_ble_eq_true rfl)
  rw [lg_entry_eq]
  generalize (lg_sl ([.ref aW, .int x1]) ++ List.replicate (5 - (lg_sl ([.ref aW, .int x1])).length) Slot.unset).toArray = ls at hl ⊢
  have hl : lv_has ls 5 [(0, .ref aW), (1, .int x1)] := hl
  generalize hQe : MQ below (kQi D cy zr A (wX6_mostPair cy aW qW aH qH aH z_vW z_vW_pairs vH z_vW_cells vH_next z_vW_who z_vW_inFront vH_sizes vH_width vH_kinds vH_doorOne vH_doorTwo)) ([.ref aW, .int x1] : List Value).toArray s 0 0 A = Q
  have L83 : ∀ (fuel : Nat) (y2_83 : Int32) (y3_83 : Int32) (y4_83 : Int32) (vW_cells_83 : Nat → Int32) (vW_inFront_83 : Nat → Int32) (vW_pairs_83 : Nat → Int32) (vW_who_83 : Nat → Int32) (vW_83 : Nat → Int32), ∀ (H : Heap) (locs : List Loc) (ls : Array Slot), va_P D vwCl (wX6_mostPair cy aW qW aH qH aH vW_83 vW_pairs_83 vH vW_cells_83 vH_next vW_who_83 vW_inFront_83 vH_sizes vH_width vH_kinds vH_doorOne vH_doorTwo) H → va_D A (wX6_mostPair cy aW qW aH qH aH vW_83 vW_pairs_83 vH vW_cells_83 vH_next vW_who_83 vW_inFront_83 vH_sizes vH_width vH_kinds vH_doorOne vH_doorTwo) → va_S A s.heap H locs → lv_has ls 5 [(0, .ref aW), (2, .int y2_83), (3, .int y3_83), (4, .int y4_83)] → lp (fX6_mostPair_B83) fuel (y2_83, y3_83, y4_83, vW_cells_83, vW_inFront_83, vW_pairs_83, vW_who_83, vW_83) = some (zr, z_vW, z_vW_pairs, z_vW_cells, z_vW_who, z_vW_inFront) → W p l e ({ frames := 3, cells := 0, slots := 0, locals := 73 } : Room) s m ([.ref aW, .int x1] : List Value).toArray below meth c H locs 0 0 Q (F0 m 83 ls []) := by
    intro fuel
    induction fuel with
    | zero => intro y2_83 y3_83 y4_83 vW_cells_83 vW_inFront_83 vW_pairs_83 vW_who_83 vW_83 H locs ls hP hD hS hl hok; exact (lp_0 hok).elim
    | succ fuel ih83 =>
      intro y2_83 y3_83 y4_83 vW_cells_83 vW_inFront_83 vW_pairs_83 vW_who_83 vW_83 H locs ls hP hD hS hl hok
      obtain ⟨y83, hok, hL83, hR83⟩ := lp_step hok
      have J112 : ∀ (y2_112 : Int32) (y3_112 : Int32), ∀ (H : Heap) (locs : List Loc) (ls : Array Slot), va_P D vwCl (wX6_mostPair cy aW qW aH qH aH vW_83 vW_pairs_83 vH vW_cells_83 vH_next vW_who_83 vW_inFront_83 vH_sizes vH_width vH_kinds vH_doorOne vH_doorTwo) H → va_D A (wX6_mostPair cy aW qW aH qH aH vW_83 vW_pairs_83 vH vW_cells_83 vH_next vW_who_83 vW_inFront_83 vH_sizes vH_width vH_kinds vH_doorOne vH_doorTwo) → va_S A s.heap H locs → lv_has ls 5 [(0, .ref aW), (2, .int y2_112), (3, .int y3_112), (4, .int y4_83)] → fX6_mostPair_J112 y4_83 vW_cells_83 vW_inFront_83 vW_pairs_83 vW_who_83 vW_83 y2_112 y3_112 = some y83 → W p l e ({ frames := 3, cells := 0, slots := 0, locals := 73 } : Room) s m ([.ref aW, .int x1] : List Value).toArray below meth c H locs 0 0 Q (F0 m 112 ls []) := by
        intro y2_112 y3_112 H locs ls hP hD hS hl hok
        unfold fX6_mostPair_J112 at hok
        refine lv_iinc (v := (y4_83 + 1)) (lv' := [(4, .int (y4_83 + 1)), (0, .ref aW), (2, .int y2_112), (3, .int y3_112)]) hx hb dX6_mostPair_112 hl (k := 3) rfl (by first | rfl | decide) (by decide) rfl (fun ls hl => ?_)
        refine lv_goto (tgt := 83) hx hb dX6_mostPair_115 (by decide) ?_
        exact ih83 y2_112 y3_112 (y4_83 + 1) vW_cells_83 vW_inFront_83 vW_pairs_83 vW_who_83 vW_83 H locs ls hP hD hS (lv_sub hl [1, 2, 3, 0] rfl) (hR83 _ (Option.some.inj hok).symm)
      unfold fX6_mostPair_B83 at hok
      try dsimp only at hok
      refine lv_iload hx hb dX6_mostPair_83 (lv_at hl 3 rfl) ?_
      refine lv_bipush (v := 70) hx hb dX6_mostPair_85 (by decide) ?_
      refine lv_icmp_ge (tgt := 118) hx hb dX6_mostPair_87 (by decide) (fun c87 => ?_) (fun c87 => ?_)
      · have hok := k_pos c87 hok
        obtain ⟨e83, hok, he83⟩ := ex_some hok
        have hok := hok.trans (congrArg some (hL83 _ he83))
        refine lv_iload_n hx hb dX6_mostPair_118 rfl (lv_at hl 2 rfl) ?_
        cases hok
        subst hQe; exact W.iret hx hb hr (fun t ht hW => ⟨⟨_, (), rfl, rfl, by rw [ht]; exact hP, va_K.moved hW.alike hK, hD⟩, hS.F ht⟩) hS.2.2 dX6_mostPair_119
      · have hok := k_neg c87 hok
        refine lv_aload_n hx hb dX6_mostPair_90 rfl (lv_at hl 0 rfl) ?_
        refine va_get (D := D) (ci := 5) (v := .ref (qW 3)) (C := RX6) (T := TX6) (N := 13) hx hb ht0 niX6 hown hK hP 0 rfl rfl 3 (by decide) (ht0 _ wd489) (fun _ h9 => h9) rfl dX6_mostPair_91 ?_
        refine lv_iload hx hb dX6_mostPair_94 (lv_at hl 3 rfl) ?_
        obtain ⟨g96, hok⟩ := gd_some hok
        refine va_iald hx hb hK hP 1 0 rfl rfl (okI_in g96) dX6_mostPair_96 ?_
        refine lv_iload_n hx hb dX6_mostPair_97 rfl (lv_at hl 1 rfl) ?_
        refine lv_icmp_le (tgt := 112) hx hb dX6_mostPair_98 (by decide) (fun c98 => ?_) (fun c98 => ?_)
        · have hok := k_pos c98 hok
          exact J112 y2_83 y3_83 H locs ls hP hD hS (lv_sub hl [0, 1, 2, 3] rfl) hok
        · have hok := k_neg c98 hok
          refine lv_aload_n hx hb dX6_mostPair_101 rfl (lv_at hl 0 rfl) ?_
          refine va_get (D := D) (ci := 5) (v := .ref (qW 3)) (C := RX6) (T := TX6) (N := 13) hx hb ht0 niX6 hown hK hP 0 rfl rfl 3 (by decide) (ht0 _ wd489) (fun _ h9 => h9) rfl dX6_mostPair_102 ?_
          refine lv_iload hx hb dX6_mostPair_105 (lv_at hl 3 rfl) ?_
          obtain ⟨g107, hok⟩ := gd_some hok
          refine va_iald hx hb hK hP 1 0 rfl rfl (okI_in g107) dX6_mostPair_107 ?_
          refine lv_istore_n (lv' := [(2, .int (vW_pairs_83 y4_83.toNatClampNeg)), (0, .ref aW), (3, .int y3_83), (4, .int y4_83)]) hx hb dX6_mostPair_108 rfl hl (by decide) rfl (fun ls hl => ?_)
          refine lv_iload hx hb dX6_mostPair_109 (lv_at hl 3 rfl) ?_
          refine lv_istore_n (lv' := [(3, .int y4_83), (2, .int (vW_pairs_83 y4_83.toNatClampNeg)), (0, .ref aW), (4, .int y4_83)]) hx hb dX6_mostPair_111 rfl hl (by decide) rfl (fun ls hl => ?_)
          exact J112 (vW_pairs_83 y4_83.toNatClampNeg) y4_83 H locs ls hP hD hS (lv_sub hl [2, 1, 0, 3] rfl) hok
  have L10 : ∀ (fuel : Nat) (y2_10 : Int32) (vW_cells_10 : Nat → Int32) (vW_inFront_10 : Nat → Int32) (vW_pairs_10 : Nat → Int32) (vW_who_10 : Nat → Int32) (vW_10 : Nat → Int32), ∀ (H : Heap) (locs : List Loc) (ls : Array Slot), va_P D vwCl (wX6_mostPair cy aW qW aH qH aH vW_10 vW_pairs_10 vH vW_cells_10 vH_next vW_who_10 vW_inFront_10 vH_sizes vH_width vH_kinds vH_doorOne vH_doorTwo) H → va_D A (wX6_mostPair cy aW qW aH qH aH vW_10 vW_pairs_10 vH vW_cells_10 vH_next vW_who_10 vW_inFront_10 vH_sizes vH_width vH_kinds vH_doorOne vH_doorTwo) → va_S A s.heap H locs → lv_has ls 5 [(0, .ref aW), (1, .int x1), (2, .int y2_10)] → lp (fX6_mostPair_B10 vH vH_next vH_sizes vH_width vH_kinds vH_doorOne vH_doorTwo x1) fuel (y2_10, vW_cells_10, vW_inFront_10, vW_pairs_10, vW_who_10, vW_10) = some (zr, z_vW, z_vW_pairs, z_vW_cells, z_vW_who, z_vW_inFront) → W p l e ({ frames := 3, cells := 0, slots := 0, locals := 73 } : Room) s m ([.ref aW, .int x1] : List Value).toArray below meth c H locs 0 0 Q (F0 m 10 ls []) := by
    intro fuel
    induction fuel with
    | zero => intro y2_10 vW_cells_10 vW_inFront_10 vW_pairs_10 vW_who_10 vW_10 H locs ls hP hD hS hl hok; exact (lp_0 hok).elim
    | succ fuel ih10 =>
      intro y2_10 vW_cells_10 vW_inFront_10 vW_pairs_10 vW_who_10 vW_10 H locs ls hP hD hS hl hok
      obtain ⟨y10, hok, hL10, hR10⟩ := lp_step hok
      have L22 : ∀ (fuel : Nat) (y3_22 : Int32) (vW_cells_22 : Nat → Int32) (vW_inFront_22 : Nat → Int32) (vW_pairs_22 : Nat → Int32) (vW_who_22 : Nat → Int32) (vW_22 : Nat → Int32), ∀ (H : Heap) (locs : List Loc) (ls : Array Slot), va_P D vwCl (wX6_mostPair cy aW qW aH qH aH vW_22 vW_pairs_22 vH vW_cells_22 vH_next vW_who_22 vW_inFront_22 vH_sizes vH_width vH_kinds vH_doorOne vH_doorTwo) H → va_D A (wX6_mostPair cy aW qW aH qH aH vW_22 vW_pairs_22 vH vW_cells_22 vH_next vW_who_22 vW_inFront_22 vH_sizes vH_width vH_kinds vH_doorOne vH_doorTwo) → va_S A s.heap H locs → lv_has ls 5 [(0, .ref aW), (1, .int x1), (2, .int y2_10), (3, .int y3_22)] → lp (fX6_mostPair_B22 vH vH_doorOne vH_doorTwo y2_10) fuel (y3_22, vW_cells_22, vW_inFront_22, vW_pairs_22, vW_who_22, vW_22) = some y10 → W p l e ({ frames := 3, cells := 0, slots := 0, locals := 73 } : Room) s m ([.ref aW, .int x1] : List Value).toArray below meth c H locs 0 0 Q (F0 m 22 ls []) := by
        intro fuel
        induction fuel with
        | zero => intro y3_22 vW_cells_22 vW_inFront_22 vW_pairs_22 vW_who_22 vW_22 H locs ls hP hD hS hl hok; exact (lp_0 hok).elim
        | succ fuel ih22 =>
          intro y3_22 vW_cells_22 vW_inFront_22 vW_pairs_22 vW_who_22 vW_22 H locs ls hP hD hS hl hok
          obtain ⟨y22, hok, hL22, hR22⟩ := lp_step hok
          have J63 : ∀ (vW_pairs_63 : Nat → Int32), ∀ (H : Heap) (locs : List Loc) (ls : Array Slot), va_P D vwCl (wX6_mostPair cy aW qW aH qH aH vW_22 vW_pairs_63 vH vW_cells_22 vH_next vW_who_22 vW_inFront_22 vH_sizes vH_width vH_kinds vH_doorOne vH_doorTwo) H → va_D A (wX6_mostPair cy aW qW aH qH aH vW_22 vW_pairs_63 vH vW_cells_22 vH_next vW_who_22 vW_inFront_22 vH_sizes vH_width vH_kinds vH_doorOne vH_doorTwo) → va_S A s.heap H locs → lv_has ls 5 [(0, .ref aW), (1, .int x1), (2, .int y2_10), (3, .int y3_22)] → fX6_mostPair_J63 y3_22 vW_cells_22 vW_inFront_22 vW_who_22 vW_22 vW_pairs_63 = some y22 → W p l e ({ frames := 3, cells := 0, slots := 0, locals := 73 } : Room) s m ([.ref aW, .int x1] : List Value).toArray below meth c H locs 0 0 Q (F0 m 63 ls []) := by
            intro vW_pairs_63 H locs ls hP hD hS hl hok
            unfold fX6_mostPair_J63 at hok
            refine lv_iinc (v := (y3_22 + 1)) (lv' := [(3, .int (y3_22 + 1)), (0, .ref aW), (1, .int x1), (2, .int y2_10)]) hx hb dX6_mostPair_63 hl (k := 3) rfl (by first | rfl | decide) (by decide) rfl (fun ls hl => ?_)
            refine lv_goto (tgt := 22) hx hb dX6_mostPair_66 (by decide) ?_
            exact ih22 (y3_22 + 1) vW_cells_22 vW_inFront_22 vW_pairs_63 vW_who_22 vW_22 H locs ls hP hD hS (lv_sub hl [1, 2, 3, 0] rfl) (hR22 _ (Option.some.inj hok).symm)
          unfold fX6_mostPair_B22 at hok
          try dsimp only at hok
          refine lv_iload_n hx hb dX6_mostPair_22 rfl (lv_at hl 3 rfl) ?_
          refine lv_aload_n hx hb dX6_mostPair_23 rfl (lv_at hl 0 rfl) ?_
          refine va_get (D := D) (ci := 5) (v := .ref aH) (C := RX6) (T := TX6) (N := 13) hx hb ht0 niX6 hown hK hP 0 rfl rfl 4 (by decide) (ht0 _ wd101) (fun _ h9 => h9) rfl dX6_mostPair_24 ?_
          refine va_get (D := D) (ci := 3) (v := .int (vH 4)) (C := RX4) (T := TX4) (N := 20) hx hb ht0 niX4 hown hK hP 2 rfl rfl 4 (by decide) (ht0 _ wd484) (fun _ h9 => h9) rfl dX6_mostPair_27 ?_
          refine lv_icmp_ge (tgt := 69) hx hb dX6_mostPair_30 (by decide) (fun c30 => ?_) (fun c30 => ?_)
          · have hok := k_pos c30 hok
            obtain ⟨e22, hok, he22⟩ := ex_some hok
            have hok := hok.trans (congrArg some (hL22 _ he22))
            refine lv_iinc (v := (y2_10 + 1)) (lv' := [(2, .int (y2_10 + 1)), (0, .ref aW), (1, .int x1), (3, .int y3_22)]) hx hb dX6_mostPair_69 hl (k := 2) rfl (by first | rfl | decide) (by decide) rfl (fun ls hl => ?_)
            refine lv_goto (tgt := 10) hx hb dX6_mostPair_72 (by decide) ?_
            exact ih10 (y2_10 + 1) vW_cells_22 vW_inFront_22 vW_pairs_22 vW_who_22 vW_22 H locs ls hP hD hS (lv_sub hl [1, 2, 0] rfl) (hR10 _ (Option.some.inj hok).symm)
          · have hok := k_neg c30 hok
            refine lv_aload_n hx hb dX6_mostPair_33 rfl (lv_at hl 0 rfl) ?_
            refine lv_iload_n hx hb dX6_mostPair_34 rfl (lv_at hl 3 rfl) ?_
            obtain ⟨r35, hc35, hok⟩ := k_bind hok
            refine kCi (wc := (wX6_pairAt cy aW qW aH qH aH vW_22 vH vH_doorOne vH_doorTwo vW_who_22)) (wc2 := (wX6_pairAt cy aW qW aH qH aH vW_22 vH vH_doorOne vH_doorTwo vW_who_22)) (wr := [(qW 3, rI cy 70 vW_pairs_22), (qW 0, rI cy 7 vW_cells_22), (qH 10, rI cy 36 vH_next), (qW 2, rI cy 7 vW_inFront_22), (qH 15, rI cy 7 vH_sizes), (qH 11, rI cy 36 vH_width), (qH 14, rI cy 7 vH_kinds)]) (ws2 := (wX6_mostPair cy aW qW aH qH aH vW_22 vW_pairs_22 vH vW_cells_22 vH_next vW_who_22 vW_inFront_22 vH_sizes vH_width vH_kinds vH_doorOne vH_doorTwo)) (kRunV (As := [.int y3_22]) (rest := []) ⟨hx, hb, hml, hown, ht0⟩ (kX6_pairAt l D cy _ aW qW aH qH vW_22 vH vH_doorOne vH_doorTwo vW_who_22 y3_22 r35 hc35 _ rfl) (cwV 1 ht0 (gV wd485 wd486 wd487 wd114 wd488) rfl rfl rfl (by decide +kernel) ⟨Nat.le_of_ble_eq_true rfl, Nat.le_of_ble_eq_true rfl⟩) hK hN hP hD [0, 2, 10, 11, 5] rfl (by decide) 0 5 rfl rfl rfl hl.1 rfl (Nat.le_of_ble_eq_true rfl) dX6_mostPair_35 ⟨Nat.zero_le _, Nat.zero_le _⟩) hP hD hS hA [0, 2, 10, 11, 5] [1, 3, 4, 6, 7, 8, 9] rfl rfl (by decide) (by decide) [7, 0, 8, 1, 2, 11, 3, 4, 5, 6, 9, 10] (by decide) rfl rfl (fun H locs hP hD hS => ?_)
            refine lv_istore (lv' := [(4, .int r35), (0, .ref aW), (1, .int x1), (2, .int y2_10), (3, .int y3_22)]) hx hb dX6_mostPair_38 hl (by decide) rfl (fun ls hl => ?_)
            refine lv_iload hx hb dX6_mostPair_40 (lv_at hl 0 rfl) ?_
            refine lv_if_lt (tgt := 63) hx hb dX6_mostPair_42 (by decide) (fun c42 => ?_) (fun c42 => ?_)
            · have hok := k_pos c42 hok
              exact J63 vW_pairs_22 H locs ls hP hD hS (lv_sub hl [1, 2, 3, 4] rfl) hok
            · have hok := k_neg c42 hok
              refine lv_iload hx hb dX6_mostPair_45 (lv_at hl 0 rfl) ?_
              refine lv_bipush (v := 70) hx hb dX6_mostPair_47 (by decide) ?_
              refine lv_icmp_ge (tgt := 63) hx hb dX6_mostPair_49 (by decide) (fun c49 => ?_) (fun c49 => ?_)
              · have hok := k_pos c49 hok
                exact J63 vW_pairs_22 H locs ls hP hD hS (lv_sub hl [1, 2, 3, 4] rfl) hok
              · have hok := k_neg c49 hok
                refine lv_aload_n hx hb dX6_mostPair_52 rfl (lv_at hl 1 rfl) ?_
                refine va_get (D := D) (ci := 5) (v := .ref (qW 3)) (C := RX6) (T := TX6) (N := 13) hx hb ht0 niX6 hown hK hP 0 rfl rfl 3 (by decide) (ht0 _ wd489) (fun _ h9 => h9) rfl dX6_mostPair_53 ?_
                refine lv_iload hx hb dX6_mostPair_56 (lv_at hl 0 rfl) ?_
                refine lv_dup2_11 hx hb dX6_mostPair_58 rfl rfl ?_
                obtain ⟨g59, hok⟩ := gd_some hok
                refine va_iald hx hb hK hP 1 0 rfl rfl (okI_in g59) dX6_mostPair_59 ?_
                refine lv_iconst (v := 1) hx hb dX6_mostPair_60 (by decide) ?_
                refine lv_iadd hx hb dX6_mostPair_61 ?_
                obtain ⟨g62, hok⟩ := gd_some hok
                refine va_iast hx hb hK hP hD hS 1 0 rfl rfl (okI_in g62) dX6_mostPair_62 (fun H locs hP hD hS => ?_)
                have hP : va_P D vwCl (wX6_mostPair cy aW qW aH qH aH vW_22 (upd vW_pairs_22 r35.toNatClampNeg ((vW_pairs_22 r35.toNatClampNeg) + (1 : Int32))) vH vW_cells_22 vH_next vW_who_22 vW_inFront_22 vH_sizes vH_width vH_kinds vH_doorOne vH_doorTwo) H := hP
                have hD : va_D A (wX6_mostPair cy aW qW aH qH aH vW_22 (upd vW_pairs_22 r35.toNatClampNeg ((vW_pairs_22 r35.toNatClampNeg) + (1 : Int32))) vH vW_cells_22 vH_next vW_who_22 vW_inFront_22 vH_sizes vH_width vH_kinds vH_doorOne vH_doorTwo) := hD
                exact J63 (upd vW_pairs_22 r35.toNatClampNeg ((vW_pairs_22 r35.toNatClampNeg) + (1 : Int32))) H locs ls hP hD hS (lv_sub hl [1, 2, 3, 4] rfl) hok
      unfold fX6_mostPair_B10 at hok
      try dsimp only at hok
      refine lv_iload_n hx hb dX6_mostPair_10 rfl (lv_at hl 2 rfl) ?_
      refine lv_iload_n hx hb dX6_mostPair_11 rfl (lv_at hl 1 rfl) ?_
      refine lv_icmp_ge (tgt := 75) hx hb dX6_mostPair_12 (by decide) (fun c12 => ?_) (fun c12 => ?_)
      · have hok := k_pos c12 hok
        obtain ⟨e10, hok, he10⟩ := ex_some hok
        have hok := hok.trans (congrArg some (hL10 _ he10))
        refine lv_iconst (v := 0) hx hb dX6_mostPair_75 (by decide) ?_
        refine lv_istore_n (lv' := [(2, .int 0), (0, .ref aW), (1, .int x1)]) hx hb dX6_mostPair_76 rfl hl (by decide) rfl (fun ls hl => ?_)
        refine lv_bipush (v := -2) hx hb dX6_mostPair_77 (by decide) ?_
        refine lv_istore_n (lv' := [(3, .int (-2)), (2, .int 0), (0, .ref aW), (1, .int x1)]) hx hb dX6_mostPair_79 rfl hl (by decide) rfl (fun ls hl => ?_)
        refine lv_iconst (v := 0) hx hb dX6_mostPair_80 (by decide) ?_
        refine lv_istore (lv' := [(4, .int 0), (3, .int (-2)), (2, .int 0), (0, .ref aW), (1, .int x1)]) hx hb dX6_mostPair_81 hl (by decide) rfl (fun ls hl => ?_)
        exact L83 5000 (0 : Int32) (-2 : Int32) (0 : Int32) vW_cells_10 vW_inFront_10 vW_pairs_10 vW_who_10 vW_10 H locs ls hP hD hS (lv_sub hl [3, 2, 1, 0] rfl) hok
      · have hok := k_neg c12 hok
        refine lv_aload_n hx hb dX6_mostPair_15 rfl (lv_at hl 0 rfl) ?_
        refine lv_iconst (v := 0) hx hb dX6_mostPair_16 (by decide) ?_
        obtain ⟨⟨vW_17, vW_cells_17, vW_who_17, vW_inFront_17⟩, hc17, hok⟩ := k_bind hok
        try dsimp only at hok
        refine kCv (wc := (wX6_pass cy aW qW aH qH aH vW_10 vH vW_cells_10 vH_next vW_who_10 vW_inFront_10 vH_sizes vH_width vH_kinds)) (wc2 := (wX6_pass cy aW qW aH qH aH vW_17 vH vW_cells_17 vH_next vW_who_17 vW_inFront_17 vH_sizes vH_width vH_kinds)) (wr := [(qW 3, rI cy 70 vW_pairs_10), (qH 12, rI cy 5 vH_doorOne), (qH 13, rI cy 5 vH_doorTwo)]) (ws2 := (wX6_mostPair cy aW qW aH qH aH vW_17 vW_pairs_10 vH vW_cells_17 vH_next vW_who_17 vW_inFront_17 vH_sizes vH_width vH_kinds vH_doorOne vH_doorTwo)) (kRunV (As := [.int 0]) (rest := []) ⟨hx, hb, hml, hown, ht0⟩ (kX6_pass l D cy _ aW qW aH qH vW_10 vH vW_cells_10 vH_next vW_who_10 vW_inFront_10 vH_sizes vH_width vH_kinds (0 : Int32) vW_17 vW_cells_17 vW_who_17 vW_inFront_17 hc17 _ rfl) (cwV 1 ht0 (gV wd154 wd155 wd156 wd114 wd157) rfl rfl rfl (by decide +kernel) ⟨Nat.le_of_ble_eq_true rfl, Nat.le_of_ble_eq_true rfl⟩) hK hN hP hD [0, 2, 3, 4, 5, 6, 7, 8, 9] rfl (by decide) 0 5 rfl rfl rfl hl.1 rfl (Nat.le_of_ble_eq_true rfl) dX6_mostPair_17 ⟨Nat.zero_le _, Nat.zero_le _⟩) hP hD hS hA [0, 2, 3, 4, 5, 6, 7, 8, 9] [1, 10, 11] rfl rfl (by decide) (by decide) [3, 0, 4, 5, 6, 7, 8, 9, 10, 11, 1, 2] (by decide) rfl rfl (fun H locs hP hD hS => ?_)
        refine lv_iconst (v := 0) hx hb dX6_mostPair_20 (by decide) ?_
        refine lv_istore_n (lv' := [(3, .int 0), (0, .ref aW), (1, .int x1), (2, .int y2_10)]) hx hb dX6_mostPair_21 rfl hl (by decide) rfl (fun ls hl => ?_)
        exact L22 5000 (0 : Int32) vW_cells_17 vW_inFront_17 vW_pairs_10 vW_who_17 vW_17 H locs ls hP hD hS (lv_sub hl [1, 2, 3, 0] rfl) hok
  unfold fX6_mostPair at hok
  obtain ⟨H, hH⟩ : ∃ H, H = s.heap := ⟨_, rfl⟩
  obtain ⟨locs, hlc⟩ : ∃ x : List Loc, x = [] := ⟨_, rfl⟩
  have hP : va_P D vwCl (wX6_mostPair cy aW qW aH qH aH vW vW_pairs vH vW_cells vH_next vW_who vW_inFront vH_sizes vH_width vH_kinds vH_doorOne vH_doorTwo) H := by rw [hH]; exact hP
  have hS : va_S A s.heap H locs := by rw [hH, hlc]; exact hS
  rw [show W p l e _ s m _ below meth c s.heap [] = W p l e _ s m _ below meth c H locs from by rw [hH, hlc]]
  refine lv_aload_n hx hb dX6_mostPair_0 rfl (lv_at hl 0 rfl) ?_
  refine va_get (D := D) (ci := 5) (v := .ref (qW 3)) (C := RX6) (T := TX6) (N := 13) hx hb ht0 niX6 hown hK hP 0 rfl rfl 3 (by decide) (ht0 _ wd489) (fun _ h9 => h9) rfl dX6_mostPair_1 ?_
  refine lv_iconst (v := 0) hx hb dX6_mostPair_4 (by decide) ?_
  obtain ⟨p0_5, hc5, hok⟩ := k_bind hok
  refine kCv (wc := (wJ7_fill_53178 cy (qW 3) 70 vW_pairs)) (wc2 := (wJ7_fill_53178 cy (qW 3) 70 p0_5)) (wr := [(aW, oX6 vW qW aH), (aH, oX4 vH qH), (qW 0, rI cy 7 vW_cells), (qH 10, rI cy 36 vH_next), (qW 1, rI cy 36 vW_who), (qW 2, rI cy 7 vW_inFront), (qH 15, rI cy 7 vH_sizes), (qH 11, rI cy 36 vH_width), (qH 14, rI cy 7 vH_kinds), (qH 12, rI cy 5 vH_doorOne), (qH 13, rI cy 5 vH_doorTwo)]) (ws2 := (wX6_mostPair cy aW qW aH qH aH vW p0_5 vH vW_cells vH_next vW_who vW_inFront vH_sizes vH_width vH_kinds vH_doorOne vH_doorTwo)) (kRunS (As := [.ref (qW 3), .int 0]) (rest := []) ⟨hx, hb, hml, hown, ht0⟩ (kJ7_fill_53178 l D cy _ (qW 3) 70 vW_pairs (0 : Int32) p0_5 hc5 _ rfl) (va_cwS 2 ht0 (gS wd126 wd30 wd31 wd32) rfl rfl rfl (by decide +kernel) ⟨Nat.le_of_ble_eq_true rfl, Nat.le_of_ble_eq_true rfl⟩) hK hN hP hD [1] rfl (by decide) rfl hl.1 rfl (Nat.le_of_ble_eq_true rfl) dX6_mostPair_5 ⟨Nat.zero_le _, Nat.zero_le _⟩) hP hD hS hA [1] [0, 2, 3, 4, 5, 6, 7, 8, 9, 10, 11] rfl rfl (by decide) (by decide) [0, 11, 1, 2, 3, 4, 5, 6, 7, 8, 9, 10] (by decide) rfl rfl (fun H locs hP hD hS => ?_)
  refine lv_iconst (v := 0) hx hb dX6_mostPair_8 (by decide) ?_
  refine lv_istore_n (lv' := [(2, .int 0), (0, .ref aW), (1, .int x1)]) hx hb dX6_mostPair_9 rfl hl (by decide) rfl (fun ls hl => ?_)
  exact L10 5000 (0 : Int32) vW_cells vW_inFront p0_5 vW_who vW H locs ls hP hD hS (lv_sub hl [1, 2, 0] rfl) hok
def wsX8_feed : List Cond := .code yX8_feed cX8_feed 6 (some .int) :: W0
abbrev wX8_feed (cy : Nat → ClassId) (aN : Nat) (qN : Nat → Nat) (aH : Nat) (qR : Nat → Nat) (aH0 : Nat) (fvN_5 : Nat) (fvR_2 : Nat) (vN : Nat → Int32) (vR_j11 : Int64) (vR : Nat → Int32) (vR_tape : Nat → Int32) : va_W := [(aN, oX8 vN qN fvN_5), (qN 0, oX5 vR qR vR_j11 fvR_2), (qR 0, rB cy 900 vR_tape)]
set_option maxHeartbeats 4000000 in
set_option maxRecDepth 100000 in
theorem kX8_feed (l : Launch) (D : va_G) (cy : Nat → ClassId) (sz : Nat) (aN : Nat) (qN : Nat → Nat) (aH : Nat) (qR : Nat → Nat) (aH0 : Nat) (vN : Nat → Int32) (vR_j11 : Int64) (vR : Nat → Int32) (vR_tape : Nat → Int32) (x1 : Int32) (x2 : Int32) (x3 : Int32) (x4 : Int32) (x5 : Int32) (zr : Int32) (z_vR : Nat → Int32) (z_vR_tape : Nat → Int32) (hok : fX8_feed vN vR_j11 vR vR_tape x1 x2 x3 x4 x5 = some (zr, z_vR, z_vR_tape)) (A : Nat → Prop) (hAe : va_A (wX8_feed cy aN qN aH qR aH0 aH aH0 vN vR_j11 vR vR_tape) sz = A) : Met l yX8_feed wsX8_feed ({ frames := 1, cells := 0, slots := 0, locals := 22 } : Room) (kPre D cy [.ref aN, .int x1, .int x2, .int x3, .int x4, .int x5] (wX8_feed cy aN qN aH qR aH0 aH aH0 vN vR_j11 vR vR_tape) sz) (kQi D cy zr A (wX8_feed cy aN qN aH qR aH0 aH aH0 vN vR_j11 z_vR z_vR_tape)) 0 0 A := by
  refine Met.ofW (cc := cX8_feed) (maxL := 6) (ret := (some .int)) (by decide) rfl ?_
  intro p e s m args below meth c s₁ B hml hv
  obtain ⟨rfl, hsz, hP, hK, hD0, hN⟩ := hv
  have hx := B.exec
  have hb := B.bytes
  have hr := B.returns
  have ht0 : ∀ w ∈ W0, w.before _ s = true := fun w h => atoms_spec (ws := wsX8_feed) B.pre w (List.mem_cons_of_mem _ h)
  have hown : s.vm.findClass RX8 = some m.cls := findClass_of_methodNamed B.named
  have hlocks := B.notSynchronized
  subst hsz
  have hD : va_D A (wX8_feed cy aN qN aH qR aH0 aH aH0 vN vR_j11 vR vR_tape) := by rw [← hAe]; exact hD0.self
  have hA : ∀ q : Nat, s.heap.size ≤ q → A q := fun q h => by rw [← hAe]; exact Or.inr h
  have hS : va_S A s.heap s.heap [] := va_S.rf
  have hl := lv_entry ([.ref aN, .int x1, .int x2, .int x3, .int x4, .int x5]) (n := 6) (Nat.le_of_ble_eq_true rfl)
  rw [lg_entry_eq]
  generalize (lg_sl ([.ref aN, .int x1, .int x2, .int x3, .int x4, .int x5]) ++ List.replicate (6 - (lg_sl ([.ref aN, .int x1, .int x2, .int x3, .int x4, .int x5])).length) Slot.unset).toArray = ls at hl ⊢
  have hl : lv_has ls 6 [(0, .ref aN), (1, .int x1), (2, .int x2), (3, .int x3), (4, .int x4), (5, .int x5)] := hl
  unfold fX8_feed at hok
  obtain ⟨H, hH⟩ : ∃ H, H = s.heap := ⟨_, rfl⟩
  obtain ⟨locs, hlc⟩ : ∃ x : List Loc, x = [] := ⟨_, rfl⟩
  have hP : va_P D vwCl (wX8_feed cy aN qN aH qR aH0 aH aH0 vN vR_j11 vR vR_tape) H := by rw [hH]; exact hP
  have hS : va_S A s.heap H locs := by rw [hH, hlc]; exact hS
  rw [show W p l e _ s m _ below meth c s.heap [] = W p l e _ s m _ below meth c H locs from by rw [hH, hlc]]
  refine lv_aload_n hx hb dX8_feed_0 rfl (lv_at hl 0 rfl) ?_
  refine va_get (D := D) (ci := 7) (v := .ref (qN 0)) (C := RX8) (T := TX8) (N := 9) hx hb ht0 niX8 hown hK hP 0 rfl rfl 0 (by decide) (ht0 _ wd490) (fun _ h9 => h9) rfl dX8_feed_1 ?_
  refine lv_bipush (v := 20) hx hb dX8_feed_4 (by decide) ?_
  obtain ⟨r6, hc6, hok⟩ := k_bind hok
  refine kCi (wc := (wX5_hasRoom cy (qN 0) qR aH0 aH0 vR_j11 vR)) (wc2 := (wX5_hasRoom cy (qN 0) qR aH0 aH0 vR_j11 vR)) (wr := [(aN, oX8 vN qN aH), (qR 0, rB cy 900 vR_tape)]) (ws2 := (wX8_feed cy aN qN aH qR aH0 aH aH0 vN vR_j11 vR vR_tape)) (kRunV (As := [.int 20]) (rest := []) ⟨hx, hb, hml, hown, ht0⟩ (kX5_hasRoom l D cy _ (qN 0) qR aH0 vR_j11 vR (20 : Int32) r6 hc6 _ rfl) (cwV 1 ht0 (gV wd491 wd492 wd493 wd276 wd494) rfl rfl rfl (by decide +kernel) ⟨Nat.le_of_ble_eq_true rfl, Nat.le_of_ble_eq_true rfl⟩) hK hN hP hD [1] rfl (by decide) 1 4 rfl rfl rfl hl.1 rfl (Nat.le_of_ble_eq_true rfl) dX8_feed_6 ⟨Nat.zero_le _, Nat.zero_le _⟩) hP hD hS hA [1] [0, 2] rfl rfl (by decide) (by decide) [0, 2, 1] (by decide) rfl rfl (fun H locs hP hD hS => ?_)
  refine lv_if_ne (tgt := 14) hx hb dX8_feed_9 (by decide) (fun c9 => ?_) (fun c9 => ?_)
  · have hok := k_neg c9 hok
    refine lv_aload_n hx hb dX8_feed_14 rfl (lv_at hl 0 rfl) ?_
    refine va_get (D := D) (ci := 7) (v := .ref (qN 0)) (C := RX8) (T := TX8) (N := 9) hx hb ht0 niX8 hown hK hP 0 rfl rfl 0 (by decide) (ht0 _ wd490) (fun _ h9 => h9) rfl dX8_feed_15 ?_
    refine lv_iload_n hx hb dX8_feed_18 rfl (lv_at hl 1 rfl) ?_
    obtain ⟨⟨vR_19, vR_tape_19⟩, hc19, hok⟩ := k_bind hok
    try dsimp only at hok
    refine kCv (wc := (wX5_append cy (qN 0) qR aH0 aH0 vR_j11 vR vR_tape)) (wc2 := (wX5_append cy (qN 0) qR aH0 aH0 vR_j11 vR_19 vR_tape_19)) (wr := [(aN, oX8 vN qN aH)]) (ws2 := (wX8_feed cy aN qN aH qR aH0 aH aH0 vN vR_j11 vR_19 vR_tape_19)) (kRunV (As := [.int x1]) (rest := []) ⟨hx, hb, hml, hown, ht0⟩ (kX5_append l D cy _ (qN 0) qR aH0 vR_j11 vR vR_tape x1 vR_19 vR_tape_19 hc19 _ rfl) (cwV 1 ht0 (gV wd495 wd496 wd497 wd276 wd498) rfl rfl rfl (by decide +kernel) ⟨Nat.le_of_ble_eq_true rfl, Nat.le_of_ble_eq_true rfl⟩) hK hN hP hD [1, 2] rfl (by decide) 1 4 rfl rfl rfl hl.1 rfl (Nat.le_of_ble_eq_true rfl) dX8_feed_19 ⟨Nat.zero_le _, Nat.zero_le _⟩) hP hD hS hA [1, 2] [0] rfl rfl (by decide) (by decide) [0, 1, 2] (by decide) rfl rfl (fun H locs hP hD hS => ?_)
    refine lv_aload_n hx hb dX8_feed_22 rfl (lv_at hl 0 rfl) ?_
    refine va_get (D := D) (ci := 7) (v := .ref (qN 0)) (C := RX8) (T := TX8) (N := 9) hx hb ht0 niX8 hown hK hP 0 rfl rfl 0 (by decide) (ht0 _ wd490) (fun _ h9 => h9) rfl dX8_feed_23 ?_
    refine lv_iload_n hx hb dX8_feed_26 rfl (lv_at hl 2 rfl) ?_
    obtain ⟨⟨vR_27, vR_tape_27⟩, hc27, hok⟩ := k_bind hok
    try dsimp only at hok
    refine kCv (wc := (wX5_append cy (qN 0) qR aH0 aH0 vR_j11 vR_19 vR_tape_19)) (wc2 := (wX5_append cy (qN 0) qR aH0 aH0 vR_j11 vR_27 vR_tape_27)) (wr := [(aN, oX8 vN qN aH)]) (ws2 := (wX8_feed cy aN qN aH qR aH0 aH aH0 vN vR_j11 vR_27 vR_tape_27)) (kRunV (As := [.int x2]) (rest := []) ⟨hx, hb, hml, hown, ht0⟩ (kX5_append l D cy _ (qN 0) qR aH0 vR_j11 vR_19 vR_tape_19 x2 vR_27 vR_tape_27 hc27 _ rfl) (cwV 1 ht0 (gV wd495 wd496 wd497 wd276 wd498) rfl rfl rfl (by decide +kernel) ⟨Nat.le_of_ble_eq_true rfl, Nat.le_of_ble_eq_true rfl⟩) hK hN hP hD [1, 2] rfl (by decide) 1 4 rfl rfl rfl hl.1 rfl (Nat.le_of_ble_eq_true rfl) dX8_feed_27 ⟨Nat.zero_le _, Nat.zero_le _⟩) hP hD hS hA [1, 2] [0] rfl rfl (by decide) (by decide) [0, 1, 2] (by decide) rfl rfl (fun H locs hP hD hS => ?_)
    refine lv_aload_n hx hb dX8_feed_30 rfl (lv_at hl 0 rfl) ?_
    refine va_get (D := D) (ci := 7) (v := .ref (qN 0)) (C := RX8) (T := TX8) (N := 9) hx hb ht0 niX8 hown hK hP 0 rfl rfl 0 (by decide) (ht0 _ wd490) (fun _ h9 => h9) rfl dX8_feed_31 ?_
    refine lv_iload_n hx hb dX8_feed_34 rfl (lv_at hl 3 rfl) ?_
    obtain ⟨⟨vR_35, vR_tape_35⟩, hc35, hok⟩ := k_bind hok
    try dsimp only at hok
    refine kCv (wc := (wX5_append cy (qN 0) qR aH0 aH0 vR_j11 vR_27 vR_tape_27)) (wc2 := (wX5_append cy (qN 0) qR aH0 aH0 vR_j11 vR_35 vR_tape_35)) (wr := [(aN, oX8 vN qN aH)]) (ws2 := (wX8_feed cy aN qN aH qR aH0 aH aH0 vN vR_j11 vR_35 vR_tape_35)) (kRunV (As := [.int x3]) (rest := []) ⟨hx, hb, hml, hown, ht0⟩ (kX5_append l D cy _ (qN 0) qR aH0 vR_j11 vR_27 vR_tape_27 x3 vR_35 vR_tape_35 hc35 _ rfl) (cwV 1 ht0 (gV wd495 wd496 wd497 wd276 wd498) rfl rfl rfl (by decide +kernel) ⟨Nat.le_of_ble_eq_true rfl, Nat.le_of_ble_eq_true rfl⟩) hK hN hP hD [1, 2] rfl (by decide) 1 4 rfl rfl rfl hl.1 rfl (Nat.le_of_ble_eq_true rfl) dX8_feed_35 ⟨Nat.zero_le _, Nat.zero_le _⟩) hP hD hS hA [1, 2] [0] rfl rfl (by decide) (by decide) [0, 1, 2] (by decide) rfl rfl (fun H locs hP hD hS => ?_)
    refine lv_aload_n hx hb dX8_feed_38 rfl (lv_at hl 0 rfl) ?_
    refine va_get (D := D) (ci := 7) (v := .ref (qN 0)) (C := RX8) (T := TX8) (N := 9) hx hb ht0 niX8 hown hK hP 0 rfl rfl 0 (by decide) (ht0 _ wd490) (fun _ h9 => h9) rfl dX8_feed_39 ?_
    refine lv_iload hx hb dX8_feed_42 (lv_at hl 4 rfl) ?_
    obtain ⟨⟨vR_44, vR_tape_44⟩, hc44, hok⟩ := k_bind hok
    try dsimp only at hok
    refine kCv (wc := (wX5_append cy (qN 0) qR aH0 aH0 vR_j11 vR_35 vR_tape_35)) (wc2 := (wX5_append cy (qN 0) qR aH0 aH0 vR_j11 vR_44 vR_tape_44)) (wr := [(aN, oX8 vN qN aH)]) (ws2 := (wX8_feed cy aN qN aH qR aH0 aH aH0 vN vR_j11 vR_44 vR_tape_44)) (kRunV (As := [.int x4]) (rest := []) ⟨hx, hb, hml, hown, ht0⟩ (kX5_append l D cy _ (qN 0) qR aH0 vR_j11 vR_35 vR_tape_35 x4 vR_44 vR_tape_44 hc44 _ rfl) (cwV 1 ht0 (gV wd495 wd496 wd497 wd276 wd498) rfl rfl rfl (by decide +kernel) ⟨Nat.le_of_ble_eq_true rfl, Nat.le_of_ble_eq_true rfl⟩) hK hN hP hD [1, 2] rfl (by decide) 1 4 rfl rfl rfl hl.1 rfl (Nat.le_of_ble_eq_true rfl) dX8_feed_44 ⟨Nat.zero_le _, Nat.zero_le _⟩) hP hD hS hA [1, 2] [0] rfl rfl (by decide) (by decide) [0, 1, 2] (by decide) rfl rfl (fun H locs hP hD hS => ?_)
    refine lv_aload_n hx hb dX8_feed_47 rfl (lv_at hl 0 rfl) ?_
    refine va_get (D := D) (ci := 7) (v := .ref (qN 0)) (C := RX8) (T := TX8) (N := 9) hx hb ht0 niX8 hown hK hP 0 rfl rfl 0 (by decide) (ht0 _ wd490) (fun _ h9 => h9) rfl dX8_feed_48 ?_
    refine lv_iload hx hb dX8_feed_51 (lv_at hl 5 rfl) ?_
    obtain ⟨⟨vR_53, vR_tape_53⟩, hc53, hok⟩ := k_bind hok
    try dsimp only at hok
    refine kCv (wc := (wX5_append cy (qN 0) qR aH0 aH0 vR_j11 vR_44 vR_tape_44)) (wc2 := (wX5_append cy (qN 0) qR aH0 aH0 vR_j11 vR_53 vR_tape_53)) (wr := [(aN, oX8 vN qN aH)]) (ws2 := (wX8_feed cy aN qN aH qR aH0 aH aH0 vN vR_j11 vR_53 vR_tape_53)) (kRunV (As := [.int x5]) (rest := []) ⟨hx, hb, hml, hown, ht0⟩ (kX5_append l D cy _ (qN 0) qR aH0 vR_j11 vR_44 vR_tape_44 x5 vR_53 vR_tape_53 hc53 _ rfl) (cwV 1 ht0 (gV wd495 wd496 wd497 wd276 wd498) rfl rfl rfl (by decide +kernel) ⟨Nat.le_of_ble_eq_true rfl, Nat.le_of_ble_eq_true rfl⟩) hK hN hP hD [1, 2] rfl (by decide) 1 4 rfl rfl rfl hl.1 rfl (Nat.le_of_ble_eq_true rfl) dX8_feed_53 ⟨Nat.zero_le _, Nat.zero_le _⟩) hP hD hS hA [1, 2] [0] rfl rfl (by decide) (by decide) [0, 1, 2] (by decide) rfl rfl (fun H locs hP hD hS => ?_)
    refine lv_aload_n hx hb dX8_feed_56 rfl (lv_at hl 0 rfl) ?_
    refine va_get (D := D) (ci := 7) (v := .ref (qN 0)) (C := RX8) (T := TX8) (N := 9) hx hb ht0 niX8 hown hK hP 0 rfl rfl 0 (by decide) (ht0 _ wd490) (fun _ h9 => h9) rfl dX8_feed_57 ?_
    obtain ⟨r60, hc60, hok⟩ := k_bind hok
    refine kCi (wc := (wX5_count cy (qN 0) qR aH0 aH0 vR_j11 vR_53)) (wc2 := (wX5_count cy (qN 0) qR aH0 aH0 vR_j11 vR_53)) (wr := [(aN, oX8 vN qN aH), (qR 0, rB cy 900 vR_tape_53)]) (ws2 := (wX8_feed cy aN qN aH qR aH0 aH aH0 vN vR_j11 vR_53 vR_tape_53)) (kRunV (As := []) (rest := []) ⟨hx, hb, hml, hown, ht0⟩ (kX5_count l D cy _ (qN 0) qR aH0 vR_j11 vR_53 r60 hc60 _ rfl) (cwV 0 ht0 (gV wd499 wd500 wd501 wd276 wd502) rfl rfl rfl (by decide +kernel) ⟨Nat.le_of_ble_eq_true rfl, Nat.le_of_ble_eq_true rfl⟩) hK hN hP hD [1] rfl (by decide) 1 4 rfl rfl rfl hl.1 rfl (Nat.le_of_ble_eq_true rfl) dX8_feed_60 ⟨Nat.zero_le _, Nat.zero_le _⟩) hP hD hS hA [1] [0, 2] rfl rfl (by decide) (by decide) [0, 2, 1] (by decide) rfl rfl (fun H locs hP hD hS => ?_)
    cases hok
    exact W.iret hx hb hr (fun t ht hW => ⟨⟨_, (), rfl, rfl, by rw [ht]; exact hP, va_K.moved hW.alike hK, hD⟩, hS.F ht⟩) hS.2.2 dX8_feed_63
  · have hok := k_pos c9 hok
    refine lv_iconst (v := -1) hx hb dX8_feed_12 (by decide) ?_
    cases hok
    exact W.iret hx hb hr (fun t ht hW => ⟨⟨_, (), rfl, rfl, by rw [ht]; exact hP, va_K.moved hW.alike hK, hD⟩, hS.F ht⟩) hS.2.2 dX8_feed_13
def wsX8_refuse : List Cond := .code yX8_refuse cX8_refuse 2 (some .int) :: W0
abbrev wX8_refuse (cy : Nat → ClassId) (aN : Nat) (qN : Nat → Nat) (aH : Nat) (fvN_5 : Nat) (vN : Nat → Int32) : va_W := [(aN, oX8 vN qN fvN_5)]
set_option maxHeartbeats 4000000 in
set_option maxRecDepth 100000 in
theorem kX8_refuse (l : Launch) (D : va_G) (cy : Nat → ClassId) (sz : Nat) (aN : Nat) (qN : Nat → Nat) (aH : Nat) (vN : Nat → Int32) (x1 : Int32) (zr : Int32) (z_vN : Nat → Int32) (hok : fX8_refuse vN x1 = some (zr, z_vN)) (A : Nat → Prop) (hAe : va_A (wX8_refuse cy aN qN aH aH vN) sz = A) : Met l yX8_refuse wsX8_refuse ({ frames := 0, cells := 0, slots := 0, locals := 0 } : Room) (kPre D cy [.ref aN, .int x1] (wX8_refuse cy aN qN aH aH vN) sz) (kQi D cy zr A (wX8_refuse cy aN qN aH aH z_vN)) 0 0 A := by
  refine Met.ofW (cc := cX8_refuse) (maxL := 2) (ret := (some .int)) (by decide) rfl ?_
  intro p e s m args below meth c s₁ B hml hv
  obtain ⟨rfl, hsz, hP, hK, hD0, hN⟩ := hv
  have hx := B.exec
  have hb := B.bytes
  have hr := B.returns
  have ht0 : ∀ w ∈ W0, w.before _ s = true := fun w h => atoms_spec (ws := wsX8_refuse) B.pre w (List.mem_cons_of_mem _ h)
  have hown : s.vm.findClass RX8 = some m.cls := findClass_of_methodNamed B.named
  have hlocks := B.notSynchronized
  subst hsz
  have hD : va_D A (wX8_refuse cy aN qN aH aH vN) := by rw [← hAe]; exact hD0.self
  have hA : ∀ q : Nat, s.heap.size ≤ q → A q := fun q h => by rw [← hAe]; exact Or.inr h
  have hS : va_S A s.heap s.heap [] := va_S.rf
  have hl := lv_entry ([.ref aN, .int x1]) (n := 2) (Nat.le_of_ble_eq_true rfl)
  rw [lg_entry_eq]
  generalize (lg_sl ([.ref aN, .int x1]) ++ List.replicate (2 - (lg_sl ([.ref aN, .int x1])).length) Slot.unset).toArray = ls at hl ⊢
  have hl : lv_has ls 2 [(0, .ref aN), (1, .int x1)] := hl
  unfold fX8_refuse at hok
  obtain ⟨H, hH⟩ : ∃ H, H = s.heap := ⟨_, rfl⟩
  obtain ⟨locs, hlc⟩ : ∃ x : List Loc, x = [] := ⟨_, rfl⟩
  have hP : va_P D vwCl (wX8_refuse cy aN qN aH aH vN) H := by rw [hH]; exact hP
  have hS : va_S A s.heap H locs := by rw [hH, hlc]; exact hS
  rw [show W p l e _ s m _ below meth c s.heap [] = W p l e _ s m _ below meth c H locs from by rw [hH, hlc]]
  refine lv_aload_n hx hb dX8_refuse_0 rfl (lv_at hl 0 rfl) ?_
  refine lv_iload_n hx hb dX8_refuse_1 rfl (lv_at hl 1 rfl) ?_
  refine va_put (D := D) (ci := 7) (v := .int x1) (ty := .int) (C := RX8) (T := TX8) (N := 9) hx hb ht0 niX8 tyX8 tyX8_ok nmX8 hown hK hP hD hS 0 rfl rfl 6 (by decide) (ht0 _ wd503) (fun _ h9 => h9) rfl (by decide +kernel) rfl rfl (Nat.le_of_ble_eq_true rfl) dX8_refuse_2 (fun H locs hP hD hS => ?_)
  have hP : va_P D vwCl (wX8_refuse cy aN qN aH aH (upd vN 6 x1)) H := hP
  have hD : va_D A (wX8_refuse cy aN qN aH aH (upd vN 6 x1)) := hD
  refine lv_iconst (v := -1) hx hb dX8_refuse_5 (by decide) ?_
  cases hok
  exact W.iret hx hb hr (fun t ht hW => ⟨⟨_, (), rfl, rfl, by rw [ht]; exact hP, va_K.moved hW.alike hK, hD⟩, hS.F ht⟩) hS.2.2 dX8_refuse_6
def wsX8_answer : List Cond := .code yX8_answer cX8_answer 2 (some .int) :: W0
abbrev wX8_answer (cy : Nat → ClassId) (aN : Nat) (qN : Nat → Nat) (aH : Nat) (fvN_5 : Nat) (vN : Nat → Int32) : va_W := [(aN, oX8 vN qN fvN_5)]
set_option maxHeartbeats 4000000 in
set_option maxRecDepth 100000 in
theorem kX8_answer (l : Launch) (D : va_G) (cy : Nat → ClassId) (sz : Nat) (aN : Nat) (qN : Nat → Nat) (aH : Nat) (vN : Nat → Int32) (x1 : Int32) (zr : Int32) (z_vN : Nat → Int32) (hok : fX8_answer vN x1 = some (zr, z_vN)) (A : Nat → Prop) (hAe : va_A (wX8_answer cy aN qN aH aH vN) sz = A) : Met l yX8_answer wsX8_answer ({ frames := 0, cells := 0, slots := 0, locals := 0 } : Room) (kPre D cy [.ref aN, .int x1] (wX8_answer cy aN qN aH aH vN) sz) (kQi D cy zr A (wX8_answer cy aN qN aH aH z_vN)) 0 0 A := by
  refine Met.ofW (cc := cX8_answer) (maxL := 2) (ret := (some .int)) (by decide) rfl ?_
  intro p e s m args below meth c s₁ B hml hv
  obtain ⟨rfl, hsz, hP, hK, hD0, hN⟩ := hv
  have hx := B.exec
  have hb := B.bytes
  have hr := B.returns
  have ht0 : ∀ w ∈ W0, w.before _ s = true := fun w h => atoms_spec (ws := wsX8_answer) B.pre w (List.mem_cons_of_mem _ h)
  have hown : s.vm.findClass RX8 = some m.cls := findClass_of_methodNamed B.named
  have hlocks := B.notSynchronized
  subst hsz
  have hD : va_D A (wX8_answer cy aN qN aH aH vN) := by rw [← hAe]; exact hD0.self
  have hA : ∀ q : Nat, s.heap.size ≤ q → A q := fun q h => by rw [← hAe]; exact Or.inr h
  have hS : va_S A s.heap s.heap [] := va_S.rf
  have hl := lv_entry ([.ref aN, .int x1]) (n := 2) (Nat.le_of_ble_eq_true rfl)
  rw [lg_entry_eq]
  generalize (lg_sl ([.ref aN, .int x1]) ++ List.replicate (2 - (lg_sl ([.ref aN, .int x1])).length) Slot.unset).toArray = ls at hl ⊢
  have hl : lv_has ls 2 [(0, .ref aN), (1, .int x1)] := hl
  unfold fX8_answer at hok
  obtain ⟨H, hH⟩ : ∃ H, H = s.heap := ⟨_, rfl⟩
  obtain ⟨locs, hlc⟩ : ∃ x : List Loc, x = [] := ⟨_, rfl⟩
  have hP : va_P D vwCl (wX8_answer cy aN qN aH aH vN) H := by rw [hH]; exact hP
  have hS : va_S A s.heap H locs := by rw [hH, hlc]; exact hS
  rw [show W p l e _ s m _ below meth c s.heap [] = W p l e _ s m _ below meth c H locs from by rw [hH, hlc]]
  refine lv_aload_n hx hb dX8_answer_0 rfl (lv_at hl 0 rfl) ?_
  refine lv_iconst (v := 0) hx hb dX8_answer_1 (by decide) ?_
  refine va_put (D := D) (ci := 7) (v := .int 0) (ty := .int) (C := RX8) (T := TX8) (N := 9) hx hb ht0 niX8 tyX8 tyX8_ok nmX8 hown hK hP hD hS 0 rfl rfl 6 (by decide) (ht0 _ wd503) (fun _ h9 => h9) rfl (by decide +kernel) rfl rfl (Nat.le_of_ble_eq_true rfl) dX8_answer_2 (fun H locs hP hD hS => ?_)
  have hP : va_P D vwCl (wX8_answer cy aN qN aH aH (upd vN 6 (0 : Int32))) H := hP
  have hD : va_D A (wX8_answer cy aN qN aH aH (upd vN 6 (0 : Int32))) := hD
  refine lv_iload_n hx hb dX8_answer_5 rfl (lv_at hl 1 rfl) ?_
  cases hok
  exact W.iret hx hb hr (fun t ht hW => ⟨⟨_, (), rfl, rfl, by rw [ht]; exact hP, va_K.moved hW.alike hK, hD⟩, hS.F ht⟩) hS.2.2 dX8_answer_6
