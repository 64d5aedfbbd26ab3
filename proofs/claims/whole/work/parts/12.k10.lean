def wsX8_house : List Cond := .code yX8_house cX8_house 3 (some .int) :: W0
abbrev wX8_house (cy : Nat → ClassId) (aN : Nat) (qN : Nat → Nat) (aH : Nat) (qR : Nat → Nat) (aH0 : Nat) (qH : Nat → Nat) (qU : Nat → Nat) (qD : Nat → Nat) (qB : Nat → Nat) (fvN_5 : Nat) (fvR_2 : Nat) (vN : Nat → Int32) (vR_j11 : Int64) (vR : Nat → Int32) (vH : Nat → Int32) (vU : Nat → Int32) (vH_next : Nat → Int32) (vH_width : Nat → Int32) (vR_tape : Nat → Int32) (vH_markNights : Nat → Int32) (vH_markPlaces : Nat → Int32) (vH_markFound : Nat → Int32) (vR_thingNames : Nat → Int64) (vR_ringNames : Nat → Int64) (vH_places : Nat → Int32) (vU_things : Nat → Int32) (vU_cells : Nat → Int32) (vU_nights : Nat → Int32) (vU_worths : Nat → Int32) (vH_firstCells : Nat → Int32) (vH_kinds : Nat → Int32) (vH_sizes : Nat → Int32) (vH_doorOne : Nat → Int32) (vH_doorTwo : Nat → Int32) (vH_sorts : Nat → Int32) (vD : Nat → Int32) (vD_now : Nat → Int32) (vB : Nat → Int32) (vB_ruleNumbers : Nat → Int32) : va_W := [(aN, oX8 vN qN fvN_5), (qN 0, oX5 vR qR vR_j11 fvR_2), (aH0, oX4 vH qH), (qH 7, oX7 vU qU), (qH 10, rI cy 36 vH_next), (qH 11, rI cy 36 vH_width), (qR 0, rB cy 900 vR_tape), (qH 17, rI cy 6 vH_markNights), (qH 18, rI cy 6 vH_markPlaces), (qH 19, rZ cy 6 vH_markFound), (qR 4, rJ cy 7 vR_thingNames), (qR 3, rJ cy 4 vR_ringNames), (qH 9, rI cy 4 vH_places), (qU 1, rI cy 6 vU_things), (qU 2, rI cy 6 vU_cells), (qU 3, rI cy 6 vU_nights), (qU 4, rI cy 6 vU_worths), (qH 16, rI cy 7 vH_firstCells), (qH 14, rI cy 7 vH_kinds), (qH 15, rI cy 7 vH_sizes), (qH 12, rI cy 5 vH_doorOne), (qH 13, rI cy 5 vH_doorTwo), (qH 8, rI cy 4 vH_sorts), (qN 1, oX1 vD qD), (qD 0, rI cy 9 vD_now), (qN 4, oX0 vB qB), (qB 0, rI cy 572 vB_ruleNumbers)]
set_option maxHeartbeats 4000000 in
set_option maxRecDepth 100000 in
theorem kX8_house (l : Launch) (D : va_G) (cy : Nat → ClassId) (ad : (Nat → Nat) × (Nat → Nat)) (sz : Nat) (aN : Nat) (qN : Nat → Nat) (aH : Nat) (qR : Nat → Nat) (aH0 : Nat) (qH : Nat → Nat) (qU : Nat → Nat) (qD : Nat → Nat) (qB : Nat → Nat) (vN : Nat → Int32) (vR_j11 : Int64) (vR : Nat → Int32) (vH : Nat → Int32) (vU : Nat → Int32) (vH_next : Nat → Int32) (vH_width : Nat → Int32) (vR_tape : Nat → Int32) (vH_markNights : Nat → Int32) (vH_markPlaces : Nat → Int32) (vH_markFound : Nat → Int32) (vR_thingNames : Nat → Int64) (vR_ringNames : Nat → Int64) (vH_places : Nat → Int32) (vU_things : Nat → Int32) (vU_cells : Nat → Int32) (vU_nights : Nat → Int32) (vU_worths : Nat → Int32) (vH_firstCells : Nat → Int32) (vH_kinds : Nat → Int32) (vH_sizes : Nat → Int32) (vH_doorOne : Nat → Int32) (vH_doorTwo : Nat → Int32) (vH_sorts : Nat → Int32) (vD : Nat → Int32) (vD_now : Nat → Int32) (vB : Nat → Int32) (vB_ruleNumbers : Nat → Int32) (x1 : Int32) (zr : Int32) (z_vN : Nat → Int32) (z_vR_j11 : Int64) (z_vR : Nat → Int32) (z_vH : Nat → Int32) (z_vU : Nat → Int32) (z_vH_next : Nat → Int32) (z_vH_width : Nat → Int32) (z_vH_markNights : Nat → Int32) (z_vH_markPlaces : Nat → Int32) (z_vH_markFound : Nat → Int32) (z_vR_thingNames : Nat → Int64) (z_vR_ringNames : Nat → Int64) (z_vH_places : Nat → Int32) (z_vU_things : Nat → Int32) (z_vU_cells : Nat → Int32) (z_vU_nights : Nat → Int32) (z_vU_worths : Nat → Int32) (z_vH_firstCells : Nat → Int32) (z_vH_kinds : Nat → Int32) (z_vH_sizes : Nat → Int32) (z_vH_doorOne : Nat → Int32) (z_vH_doorTwo : Nat → Int32) (z_vH_sorts : Nat → Int32) (z_vD : Nat → Int32) (z_vD_now : Nat → Int32) (z_vB : Nat → Int32) (z_vB_ruleNumbers : Nat → Int32) (z_aH : Nat) (z_aH0 : Nat) (hok : fX8_house aH aH0 vN vR_j11 vR vH vU vH_next vH_width vR_tape vH_markNights vH_markPlaces vH_markFound vR_thingNames vR_ringNames vH_places vU_things vU_cells vU_nights vU_worths vH_firstCells vH_kinds vH_sizes vH_doorOne vH_doorTwo vH_sorts vD vD_now vB vB_ruleNumbers x1 = some (zr, z_vN, z_vR_j11, z_vR, z_vH, z_vU, z_vH_next, z_vH_width, z_vH_markNights, z_vH_markPlaces, z_vH_markFound, z_vR_thingNames, z_vR_ringNames, z_vH_places, z_vU_things, z_vU_cells, z_vU_nights, z_vU_worths, z_vH_firstCells, z_vH_kinds, z_vH_sizes, z_vH_doorOne, z_vH_doorTwo, z_vH_sorts, z_vD, z_vD_now, z_vB, z_vB_ruleNumbers, z_aH, z_aH0)) (A : Nat → Prop) (hAe : va_A (wX8_house cy aN qN aH qR aH0 qH qU qD qB aH aH0 vN vR_j11 vR vH vU vH_next vH_width vR_tape vH_markNights vH_markPlaces vH_markFound vR_thingNames vR_ringNames vH_places vU_things vU_cells vU_nights vU_worths vH_firstCells vH_kinds vH_sizes vH_doorOne vH_doorTwo vH_sorts vD vD_now vB vB_ruleNumbers) sz = A) : Met l yX8_house wsX8_house ({ frames := 10, cells := 0, slots := 0, locals := 222 } : Room) (kPreS D cy ad [.ref aN, .int x1] (wX8_house cy aN qN aH qR aH0 qH qU qD qB aH aH0 vN vR_j11 vR vH vU vH_next vH_width vR_tape vH_markNights vH_markPlaces vH_markFound vR_thingNames vR_ringNames vH_places vU_things vU_cells vU_nights vU_worths vH_firstCells vH_kinds vH_sizes vH_doorOne vH_doorTwo vH_sorts vD vD_now vB vB_ruleNumbers) sz A) (kQi D cy zr A (wX8_house cy aN qN aH qR aH0 qH qU qD qB z_aH z_aH0 z_vN z_vR_j11 z_vR z_vH z_vU z_vH_next z_vH_width vR_tape z_vH_markNights z_vH_markPlaces z_vH_markFound z_vR_thingNames z_vR_ringNames z_vH_places z_vU_things z_vU_cells z_vU_nights z_vU_worths z_vH_firstCells z_vH_kinds z_vH_sizes z_vH_doorOne z_vH_doorTwo z_vH_sorts z_vD z_vD_now z_vB z_vB_ruleNumbers)) 0 0 A := by
  refine Met.ofW (cc := cX8_house) (maxL := 3) (ret := (some .int)) (by decide) rfl ?_
  intro p e s m args below meth c s₁ B hml hv
  obtain ⟨rfl, ⟨hsz, hP, hK, hD0, hN⟩, hSt⟩ := hv
  have hx := B.exec
  have hb := B.bytes
  have hr := B.returns
  have ht0 : ∀ w ∈ W0, w.before _ s = true := fun w h => atoms_spec (ws := wsX8_house) B.pre w (List.mem_cons_of_mem _ h)
  have hown : s.vm.findClass RX8 = some m.cls := findClass_of_methodNamed B.named
  have hlocks := B.notSynchronized
  subst hsz
  have hD : va_D A (wX8_house cy aN qN aH qR aH0 qH qU qD qB aH aH0 vN vR_j11 vR vH vU vH_next vH_width vR_tape vH_markNights vH_markPlaces vH_markFound vR_thingNames vR_ringNames vH_places vU_things vU_cells vU_nights vU_worths vH_firstCells vH_kinds vH_sizes vH_doorOne vH_doorTwo vH_sorts vD vD_now vB vB_ruleNumbers) := by rw [← hAe]; exact hD0.self
  have hA : ∀ q : Nat, s.heap.size ≤ q → A q := fun q h => by rw [← hAe]; exact Or.inr h
  have hS : va_S A s.heap s.heap [] := va_S.rf
  have hl := lv_entry ([.ref aN, .int x1]) (n := 3) (Nat.le_of_ble_eq_true rfl)
  rw [lg_entry_eq]
  generalize (lg_sl ([.ref aN, .int x1]) ++ List.replicate (3 - (lg_sl ([.ref aN, .int x1])).length) Slot.unset).toArray = ls at hl ⊢
  have hl : lv_has ls 3 [(0, .ref aN), (1, .int x1)] := hl
  generalize hQe : MQ below (kQi D cy zr A (wX8_house cy aN qN aH qR aH0 qH qU qD qB z_aH z_aH0 z_vN z_vR_j11 z_vR z_vH z_vU z_vH_next z_vH_width vR_tape z_vH_markNights z_vH_markPlaces z_vH_markFound z_vR_thingNames z_vR_ringNames z_vH_places z_vU_things z_vU_cells z_vU_nights z_vU_worths z_vH_firstCells z_vH_kinds z_vH_sizes z_vH_doorOne z_vH_doorTwo z_vH_sorts z_vD z_vD_now z_vB z_vB_ruleNumbers)) ([.ref aN, .int x1] : List Value).toArray s 0 0 A = Q
  have J15 : ∀ (H : Heap) (locs : List Loc) (ls : Array Slot), va_P D vwCl (wX8_house cy aN qN aH qR aH0 qH qU qD qB aH aH0 vN vR_j11 vR vH vU vH_next vH_width vR_tape vH_markNights vH_markPlaces vH_markFound vR_thingNames vR_ringNames vH_places vU_things vU_cells vU_nights vU_worths vH_firstCells vH_kinds vH_sizes vH_doorOne vH_doorTwo vH_sorts vD vD_now vB vB_ruleNumbers) H → va_D A (wX8_house cy aN qN aH qR aH0 qH qU qD qB aH aH0 vN vR_j11 vR vH vU vH_next vH_width vR_tape vH_markNights vH_markPlaces vH_markFound vR_thingNames vR_ringNames vH_places vU_things vU_cells vU_nights vU_worths vH_firstCells vH_kinds vH_sizes vH_doorOne vH_doorTwo vH_sorts vD vD_now vB vB_ruleNumbers) → va_S A s.heap H locs → lv_has ls 3 [(0, .ref aN)] → fX8_house_J15 aH aH0 vN vR_j11 vR vH vU vH_next vH_width vH_markNights vH_markPlaces vH_markFound vR_thingNames vR_ringNames vH_places vU_things vU_cells vU_nights vU_worths vH_firstCells vH_kinds vH_sizes vH_doorOne vH_doorTwo vH_sorts vD vD_now vB vB_ruleNumbers = some (zr, z_vN, z_vR_j11, z_vR, z_vH, z_vU, z_vH_next, z_vH_width, z_vH_markNights, z_vH_markPlaces, z_vH_markFound, z_vR_thingNames, z_vR_ringNames, z_vH_places, z_vU_things, z_vU_cells, z_vU_nights, z_vU_worths, z_vH_firstCells, z_vH_kinds, z_vH_sizes, z_vH_doorOne, z_vH_doorTwo, z_vH_sorts, z_vD, z_vD_now, z_vB, z_vB_ruleNumbers, z_aH, z_aH0) → W p l e ({ frames := 10, cells := 0, slots := 0, locals := 222 } : Room) s m ([.ref aN, .int x1] : List Value).toArray below meth c H locs 0 0 Q (F0 m 15 ls []) := by
    intro  H locs ls hP hD hS hl hok
    unfold fX8_house_J15 at hok
    refine lv_aload_n hx hb dX8_house_15 rfl (lv_at hl 0 rfl) ?_
    refine lv_iconst (v := 2) hx hb dX8_house_16 (by decide) ?_
    obtain ⟨⟨r17, vN_17⟩, hc17, hok⟩ := k_bind hok
    try dsimp only at hok
    refine kCi (wc := (wX8_refuse cy aN qN aH aH vN)) (wc2 := (wX8_refuse cy aN qN aH aH vN_17)) (wr := [(qN 0, oX5 vR qR vR_j11 aH0), (aH0, oX4 vH qH), (qH 7, oX7 vU qU), (qH 10, rI cy 36 vH_next), (qH 11, rI cy 36 vH_width), (qR 0, rB cy 900 vR_tape), (qH 17, rI cy 6 vH_markNights), (qH 18, rI cy 6 vH_markPlaces), (qH 19, rZ cy 6 vH_markFound), (qR 4, rJ cy 7 vR_thingNames), (qR 3, rJ cy 4 vR_ringNames), (qH 9, rI cy 4 vH_places), (qU 1, rI cy 6 vU_things), (qU 2, rI cy 6 vU_cells), (qU 3, rI cy 6 vU_nights), (qU 4, rI cy 6 vU_worths), (qH 16, rI cy 7 vH_firstCells), (qH 14, rI cy 7 vH_kinds), (qH 15, rI cy 7 vH_sizes), (qH 12, rI cy 5 vH_doorOne), (qH 13, rI cy 5 vH_doorTwo), (qH 8, rI cy 4 vH_sorts), (qN 1, oX1 vD qD), (qD 0, rI cy 9 vD_now), (qN 4, oX0 vB qB), (qB 0, rI cy 572 vB_ruleNumbers)]) (ws2 := (wX8_house cy aN qN aH qR aH0 qH qU qD qB aH aH0 vN_17 vR_j11 vR vH vU vH_next vH_width vR_tape vH_markNights vH_markPlaces vH_markFound vR_thingNames vR_ringNames vH_places vU_things vU_cells vU_nights vU_worths vH_firstCells vH_kinds vH_sizes vH_doorOne vH_doorTwo vH_sorts vD vD_now vB vB_ruleNumbers)) (kRunV (As := [.int 2]) (rest := []) ⟨hx, hb, hml, hown, ht0⟩ (kX8_refuse l D cy _ aN qN aH vN (2 : Int32) r17 vN_17 hc17 _ rfl) (cwV 1 ht0 (gV wd504 wd505 wd506 wd57 wd507) rfl rfl rfl (by decide +kernel) ⟨Nat.le_of_ble_eq_true rfl, Nat.le_of_ble_eq_true rfl⟩) hK hN hP hD [0] rfl (by decide) 0 7 rfl rfl rfl hl.1 rfl (Nat.le_of_ble_eq_true rfl) dX8_house_17 ⟨Nat.zero_le _, Nat.zero_le _⟩) hP hD hS hA [0] [1, 2, 3, 4, 5, 6, 7, 8, 9, 10, 11, 12, 13, 14, 15, 16, 17, 18, 19, 20, 21, 22, 23, 24, 25, 26] rfl rfl (by decide) (by decide) [26, 0, 1, 2, 3, 4, 5, 6, 7, 8, 9, 10, 11, 12, 13, 14, 15, 16, 17, 18, 19, 20, 21, 22, 23, 24, 25] (by decide) rfl rfl (fun H locs hP hD hS => ?_)
    cases hok
    subst hQe; exact W.iret hx hb hr (fun t ht hW => ⟨⟨_, (), rfl, rfl, by rw [ht]; exact hP, va_K.moved hW.alike hK, hD⟩, hS.F ht⟩) hS.2.2 dX8_house_20
  unfold fX8_house at hok
  obtain ⟨H, hH⟩ : ∃ H, H = s.heap := ⟨_, rfl⟩
  obtain ⟨locs, hlc⟩ : ∃ x : List Loc, x = [] := ⟨_, rfl⟩
  have hP : va_P D vwCl (wX8_house cy aN qN aH qR aH0 qH qU qD qB aH aH0 vN vR_j11 vR vH vU vH_next vH_width vR_tape vH_markNights vH_markPlaces vH_markFound vR_thingNames vR_ringNames vH_places vU_things vU_cells vU_nights vU_worths vH_firstCells vH_kinds vH_sizes vH_doorOne vH_doorTwo vH_sorts vD vD_now vB vB_ruleNumbers) H := by rw [hH]; exact hP
  have hS : va_S A s.heap H locs := by rw [hH, hlc]; exact hS
  rw [show W p l e _ s m _ below meth c s.heap [] = W p l e _ s m _ below meth c H locs from by rw [hH, hlc]]
  refine lv_iload_n hx hb dX8_house_0 rfl (lv_at hl 1 rfl) ?_
  refine lv_if_lt (tgt := 15) hx hb dX8_house_1 (by decide) (fun c1 => ?_) (fun c1 => ?_)
  · have hok := k_pos c1 hok
    exact J15  H locs ls hP hD hS (lv_sub hl [0] rfl) hok
  · have hok := k_neg c1 hok
    refine lv_iload_n hx hb dX8_house_4 rfl (lv_at hl 1 rfl) ?_
    refine lv_aload_n hx hb dX8_house_5 rfl (lv_at hl 0 rfl) ?_
    refine va_get (D := D) (ci := 7) (v := .ref (qN 0)) (C := RX8) (T := TX8) (N := 9) hx hb ht0 niX8 hown hK hP 0 rfl rfl 0 (by decide) (ht0 _ wd490) (fun _ h9 => h9) rfl dX8_house_6 ?_
    obtain ⟨r9, hc9, hok⟩ := k_bind hok
    refine kCi (wc := (wX5_count cy (qN 0) qR aH0 aH0 vR_j11 vR)) (wc2 := (wX5_count cy (qN 0) qR aH0 aH0 vR_j11 vR)) (wr := [(aN, oX8 vN qN aH), (aH0, oX4 vH qH), (qH 7, oX7 vU qU), (qH 10, rI cy 36 vH_next), (qH 11, rI cy 36 vH_width), (qR 0, rB cy 900 vR_tape), (qH 17, rI cy 6 vH_markNights), (qH 18, rI cy 6 vH_markPlaces), (qH 19, rZ cy 6 vH_markFound), (qR 4, rJ cy 7 vR_thingNames), (qR 3, rJ cy 4 vR_ringNames), (qH 9, rI cy 4 vH_places), (qU 1, rI cy 6 vU_things), (qU 2, rI cy 6 vU_cells), (qU 3, rI cy 6 vU_nights), (qU 4, rI cy 6 vU_worths), (qH 16, rI cy 7 vH_firstCells), (qH 14, rI cy 7 vH_kinds), (qH 15, rI cy 7 vH_sizes), (qH 12, rI cy 5 vH_doorOne), (qH 13, rI cy 5 vH_doorTwo), (qH 8, rI cy 4 vH_sorts), (qN 1, oX1 vD qD), (qD 0, rI cy 9 vD_now), (qN 4, oX0 vB qB), (qB 0, rI cy 572 vB_ruleNumbers)]) (ws2 := (wX8_house cy aN qN aH qR aH0 qH qU qD qB aH aH0 vN vR_j11 vR vH vU vH_next vH_width vR_tape vH_markNights vH_markPlaces vH_markFound vR_thingNames vR_ringNames vH_places vU_things vU_cells vU_nights vU_worths vH_firstCells vH_kinds vH_sizes vH_doorOne vH_doorTwo vH_sorts vD vD_now vB vB_ruleNumbers)) (kRunV (As := []) (rest := [.int x1]) ⟨hx, hb, hml, hown, ht0⟩ (kX5_count l D cy _ (qN 0) qR aH0 vR_j11 vR r9 hc9 _ rfl) (cwV 0 ht0 (gV wd499 wd500 wd501 wd276 wd502) rfl rfl rfl (by decide +kernel) ⟨Nat.le_of_ble_eq_true rfl, Nat.le_of_ble_eq_true rfl⟩) hK hN hP hD [1] rfl (by decide) 1 4 rfl rfl rfl hl.1 rfl (Nat.le_of_ble_eq_true rfl) dX8_house_9 ⟨Nat.zero_le _, Nat.zero_le _⟩) hP hD hS hA [1] [0, 2, 3, 4, 5, 6, 7, 8, 9, 10, 11, 12, 13, 14, 15, 16, 17, 18, 19, 20, 21, 22, 23, 24, 25, 26] rfl rfl (by decide) (by decide) [0, 26, 1, 2, 3, 4, 5, 6, 7, 8, 9, 10, 11, 12, 13, 14, 15, 16, 17, 18, 19, 20, 21, 22, 23, 24, 25] (by decide) rfl rfl (fun H locs hP hD hS => ?_)
    refine lv_icmp_le (tgt := 21) hx hb dX8_house_12 (by decide) (fun c12 => ?_) (fun c12 => ?_)
    · have hok := k_pos c12 hok
      refine lv_aload_n hx hb dX8_house_21 rfl (lv_at hl 0 rfl) ?_
      refine va_get (D := D) (ci := 7) (v := .ref (qN 0)) (C := RX8) (T := TX8) (N := 9) hx hb ht0 niX8 hown hK hP 0 rfl rfl 0 (by decide) (ht0 _ wd490) (fun _ h9 => h9) rfl dX8_house_22 ?_
      refine lv_iload_n hx hb dX8_house_25 rfl (lv_at hl 1 rfl) ?_
      obtain ⟨⟨r26, vR_j11_26, vR_26, vH_26, vU_26, vH_next_26, vH_width_26, vH_markNights_26, vH_markPlaces_26, vH_markFound_26, vR_thingNames_26, vR_ringNames_26, vH_places_26, vU_things_26, vU_cells_26, vU_nights_26, vU_worths_26, vH_firstCells_26, vH_kinds_26, vH_sizes_26, vH_doorOne_26, vH_doorTwo_26, vH_sorts_26⟩, hc26, hok⟩ := k_bind hok
      try dsimp only at hok
      refine kCi (wc := (wX5_read cy (qN 0) qR aH0 qH qU aH0 vR_j11 vR vH vU vH_next vH_width vR_tape vH_markNights vH_markPlaces vH_markFound vR_thingNames vR_ringNames vH_places vU_things vU_cells vU_nights vU_worths vH_firstCells vH_kinds vH_sizes vH_doorOne vH_doorTwo vH_sorts)) (wc2 := (wX5_read cy (qN 0) qR aH0 qH qU aH0 vR_j11_26 vR_26 vH_26 vU_26 vH_next_26 vH_width_26 vR_tape vH_markNights_26 vH_markPlaces_26 vH_markFound_26 vR_thingNames_26 vR_ringNames_26 vH_places_26 vU_things_26 vU_cells_26 vU_nights_26 vU_worths_26 vH_firstCells_26 vH_kinds_26 vH_sizes_26 vH_doorOne_26 vH_doorTwo_26 vH_sorts_26)) (wr := [(aN, oX8 vN qN aH), (qN 1, oX1 vD qD), (qD 0, rI cy 9 vD_now), (qN 4, oX0 vB qB), (qB 0, rI cy 572 vB_ruleNumbers)]) (ws2 := (wX8_house cy aN qN aH qR aH0 qH qU qD qB aH aH0 vN vR_j11_26 vR_26 vH_26 vU_26 vH_next_26 vH_width_26 vR_tape vH_markNights_26 vH_markPlaces_26 vH_markFound_26 vR_thingNames_26 vR_ringNames_26 vH_places_26 vU_things_26 vU_cells_26 vU_nights_26 vU_worths_26 vH_firstCells_26 vH_kinds_26 vH_sizes_26 vH_doorOne_26 vH_doorTwo_26 vH_sorts_26 vD vD_now vB vB_ruleNumbers)) (kRunVS (As := [.int x1]) (rest := []) ⟨hx, hb, hml, hown, ht0⟩ (kX5_read l D cy ad _ (qN 0) qR aH0 qH qU vR_j11 vR vH vU vH_next vH_width vR_tape vH_markNights vH_markPlaces vH_markFound vR_thingNames vR_ringNames vH_places vU_things vU_cells vU_nights vU_worths vH_firstCells vH_kinds vH_sizes vH_doorOne vH_doorTwo vH_sorts x1 r26 vR_j11_26 vR_26 vH_26 vU_26 vH_next_26 vH_width_26 vH_markNights_26 vH_markPlaces_26 vH_markFound_26 vR_thingNames_26 vR_ringNames_26 vH_places_26 vU_things_26 vU_cells_26 vU_nights_26 vU_worths_26 vH_firstCells_26 vH_kinds_26 vH_sizes_26 vH_doorOne_26 vH_doorTwo_26 vH_sorts_26 hc26 _ rfl) (cwV 1 ht0 (gV wd508 wd509 wd510 wd276 wd511) rfl rfl rfl (by decide +kernel) ⟨Nat.le_of_ble_eq_true rfl, Nat.le_of_ble_eq_true rfl⟩) hK hN hP hD hSt hS hA [1, 2, 3, 4, 5, 6, 7, 8, 9, 10, 11, 12, 13, 14, 15, 16, 17, 18, 19, 20, 21, 22] rfl (by decide) 1 4 rfl rfl rfl hl.1 rfl (Nat.le_of_ble_eq_true rfl) dX8_house_26 ⟨Nat.zero_le _, Nat.zero_le _⟩) hP hD hS hA [1, 2, 3, 4, 5, 6, 7, 8, 9, 10, 11, 12, 13, 14, 15, 16, 17, 18, 19, 20, 21, 22] [0, 23, 24, 25, 26] rfl rfl (by decide) (by decide) [0, 5, 6, 7, 8, 9, 10, 11, 12, 13, 14, 15, 16, 17, 18, 19, 20, 21, 22, 23, 24, 25, 26, 1, 2, 3, 4] (by decide) rfl rfl (fun H locs hP hD hS => ?_)
      refine lv_istore_n (lv' := [(2, .int r26), (0, .ref aN), (1, .int x1)]) hx hb dX8_house_29 rfl hl (by decide) rfl (fun ls hl => ?_)
      refine lv_aload_n hx hb dX8_house_30 rfl (lv_at hl 1 rfl) ?_
      refine lv_aload_n hx hb dX8_house_31 rfl (lv_at hl 1 rfl) ?_
      refine va_get (D := D) (ci := 7) (v := .ref (qN 0)) (C := RX8) (T := TX8) (N := 9) hx hb ht0 niX8 hown hK hP 0 rfl rfl 0 (by decide) (ht0 _ wd490) (fun _ h9 => h9) rfl dX8_house_32 ?_
      obtain ⟨r35, hc35, hok⟩ := k_bind hok
      refine kCi (wc := (wX5_faultFound cy (qN 0) qR aH0 aH0 vR_j11_26 vR_26)) (wc2 := (wX5_faultFound cy (qN 0) qR aH0 aH0 vR_j11_26 vR_26)) (wr := [(aN, oX8 vN qN aH), (aH0, oX4 vH_26 qH), (qH 7, oX7 vU_26 qU), (qH 10, rI cy 36 vH_next_26), (qH 11, rI cy 36 vH_width_26), (qR 0, rB cy 900 vR_tape), (qH 17, rI cy 6 vH_markNights_26), (qH 18, rI cy 6 vH_markPlaces_26), (qH 19, rZ cy 6 vH_markFound_26), (qR 4, rJ cy 7 vR_thingNames_26), (qR 3, rJ cy 4 vR_ringNames_26), (qH 9, rI cy 4 vH_places_26), (qU 1, rI cy 6 vU_things_26), (qU 2, rI cy 6 vU_cells_26), (qU 3, rI cy 6 vU_nights_26), (qU 4, rI cy 6 vU_worths_26), (qH 16, rI cy 7 vH_firstCells_26), (qH 14, rI cy 7 vH_kinds_26), (qH 15, rI cy 7 vH_sizes_26), (qH 12, rI cy 5 vH_doorOne_26), (qH 13, rI cy 5 vH_doorTwo_26), (qH 8, rI cy 4 vH_sorts_26), (qN 1, oX1 vD qD), (qD 0, rI cy 9 vD_now), (qN 4, oX0 vB qB), (qB 0, rI cy 572 vB_ruleNumbers)]) (ws2 := (wX8_house cy aN qN aH qR aH0 qH qU qD qB aH aH0 vN vR_j11_26 vR_26 vH_26 vU_26 vH_next_26 vH_width_26 vR_tape vH_markNights_26 vH_markPlaces_26 vH_markFound_26 vR_thingNames_26 vR_ringNames_26 vH_places_26 vU_things_26 vU_cells_26 vU_nights_26 vU_worths_26 vH_firstCells_26 vH_kinds_26 vH_sizes_26 vH_doorOne_26 vH_doorTwo_26 vH_sorts_26 vD vD_now vB vB_ruleNumbers)) (kRunV (As := []) (rest := [.ref aN]) ⟨hx, hb, hml, hown, ht0⟩ (kX5_faultFound l D cy _ (qN 0) qR aH0 vR_j11_26 vR_26 r35 hc35 _ rfl) (cwV 0 ht0 (gV wd512 wd513 wd514 wd276 wd515) rfl rfl rfl (by decide +kernel) ⟨Nat.le_of_ble_eq_true rfl, Nat.le_of_ble_eq_true rfl⟩) hK hN hP hD [1] rfl (by decide) 1 4 rfl rfl rfl hl.1 rfl (Nat.le_of_ble_eq_true rfl) dX8_house_35 ⟨Nat.zero_le _, Nat.zero_le _⟩) hP hD hS hA [1] [0, 2, 3, 4, 5, 6, 7, 8, 9, 10, 11, 12, 13, 14, 15, 16, 17, 18, 19, 20, 21, 22, 23, 24, 25, 26] rfl rfl (by decide) (by decide) [0, 26, 1, 2, 3, 4, 5, 6, 7, 8, 9, 10, 11, 12, 13, 14, 15, 16, 17, 18, 19, 20, 21, 22, 23, 24, 25] (by decide) rfl rfl (fun H locs hP hD hS => ?_)
      refine va_put (D := D) (ci := 7) (v := .int r35) (ty := .int) (C := RX8) (T := TX8) (N := 9) hx hb ht0 niX8 tyX8 tyX8_ok nmX8 hown hK hP hD hS 0 rfl rfl 7 (by decide) (ht0 _ wd516) (fun _ h9 => h9) rfl (by decide +kernel) rfl rfl (Nat.le_of_ble_eq_true rfl) dX8_house_38 (fun H locs hP hD hS => ?_)
      have hP : va_P D vwCl (wX8_house cy aN qN aH qR aH0 qH qU qD qB aH aH0 (upd vN 7 r35) vR_j11_26 vR_26 vH_26 vU_26 vH_next_26 vH_width_26 vR_tape vH_markNights_26 vH_markPlaces_26 vH_markFound_26 vR_thingNames_26 vR_ringNames_26 vH_places_26 vU_things_26 vU_cells_26 vU_nights_26 vU_worths_26 vH_firstCells_26 vH_kinds_26 vH_sizes_26 vH_doorOne_26 vH_doorTwo_26 vH_sorts_26 vD vD_now vB vB_ruleNumbers) H := hP
      have hD : va_D A (wX8_house cy aN qN aH qR aH0 qH qU qD qB aH aH0 (upd vN 7 r35) vR_j11_26 vR_26 vH_26 vU_26 vH_next_26 vH_width_26 vR_tape vH_markNights_26 vH_markPlaces_26 vH_markFound_26 vR_thingNames_26 vR_ringNames_26 vH_places_26 vU_things_26 vU_cells_26 vU_nights_26 vU_worths_26 vH_firstCells_26 vH_kinds_26 vH_sizes_26 vH_doorOne_26 vH_doorTwo_26 vH_sorts_26 vD vD_now vB vB_ruleNumbers) := hD
      refine lv_aload_n hx hb dX8_house_41 rfl (lv_at hl 1 rfl) ?_
      refine lv_aload_n hx hb dX8_house_42 rfl (lv_at hl 1 rfl) ?_
      refine va_get (D := D) (ci := 7) (v := .ref (qN 0)) (C := RX8) (T := TX8) (N := 9) hx hb ht0 niX8 hown hK hP 0 rfl rfl 0 (by decide) (ht0 _ wd490) (fun _ h9 => h9) rfl dX8_house_43 ?_
      obtain ⟨r46, hc46, hok⟩ := k_bind hok
      refine kCi (wc := (wX5_faultStart cy (qN 0) qR aH0 aH0 vR_j11_26 vR_26)) (wc2 := (wX5_faultStart cy (qN 0) qR aH0 aH0 vR_j11_26 vR_26)) (wr := [(aN, oX8 (upd vN 7 r35) qN aH), (aH0, oX4 vH_26 qH), (qH 7, oX7 vU_26 qU), (qH 10, rI cy 36 vH_next_26), (qH 11, rI cy 36 vH_width_26), (qR 0, rB cy 900 vR_tape), (qH 17, rI cy 6 vH_markNights_26), (qH 18, rI cy 6 vH_markPlaces_26), (qH 19, rZ cy 6 vH_markFound_26), (qR 4, rJ cy 7 vR_thingNames_26), (qR 3, rJ cy 4 vR_ringNames_26), (qH 9, rI cy 4 vH_places_26), (qU 1, rI cy 6 vU_things_26), (qU 2, rI cy 6 vU_cells_26), (qU 3, rI cy 6 vU_nights_26), (qU 4, rI cy 6 vU_worths_26), (qH 16, rI cy 7 vH_firstCells_26), (qH 14, rI cy 7 vH_kinds_26), (qH 15, rI cy 7 vH_sizes_26), (qH 12, rI cy 5 vH_doorOne_26), (qH 13, rI cy 5 vH_doorTwo_26), (qH 8, rI cy 4 vH_sorts_26), (qN 1, oX1 vD qD), (qD 0, rI cy 9 vD_now), (qN 4, oX0 vB qB), (qB 0, rI cy 572 vB_ruleNumbers)]) (ws2 := (wX8_house cy aN qN aH qR aH0 qH qU qD qB aH aH0 (upd vN 7 r35) vR_j11_26 vR_26 vH_26 vU_26 vH_next_26 vH_width_26 vR_tape vH_markNights_26 vH_markPlaces_26 vH_markFound_26 vR_thingNames_26 vR_ringNames_26 vH_places_26 vU_things_26 vU_cells_26 vU_nights_26 vU_worths_26 vH_firstCells_26 vH_kinds_26 vH_sizes_26 vH_doorOne_26 vH_doorTwo_26 vH_sorts_26 vD vD_now vB vB_ruleNumbers)) (kRunV (As := []) (rest := [.ref aN]) ⟨hx, hb, hml, hown, ht0⟩ (kX5_faultStart l D cy _ (qN 0) qR aH0 vR_j11_26 vR_26 r46 hc46 _ rfl) (cwV 0 ht0 (gV wd517 wd518 wd519 wd276 wd520) rfl rfl rfl (by decide +kernel) ⟨Nat.le_of_ble_eq_true rfl, Nat.le_of_ble_eq_true rfl⟩) hK hN hP hD [1] rfl (by decide) 1 4 rfl rfl rfl hl.1 rfl (Nat.le_of_ble_eq_true rfl) dX8_house_46 ⟨Nat.zero_le _, Nat.zero_le _⟩) hP hD hS hA [1] [0, 2, 3, 4, 5, 6, 7, 8, 9, 10, 11, 12, 13, 14, 15, 16, 17, 18, 19, 20, 21, 22, 23, 24, 25, 26] rfl rfl (by decide) (by decide) [0, 26, 1, 2, 3, 4, 5, 6, 7, 8, 9, 10, 11, 12, 13, 14, 15, 16, 17, 18, 19, 20, 21, 22, 23, 24, 25] (by decide) rfl rfl (fun H locs hP hD hS => ?_)
      refine va_put (D := D) (ci := 7) (v := .int r46) (ty := .int) (C := RX8) (T := TX8) (N := 9) hx hb ht0 niX8 tyX8 tyX8_ok nmX8 hown hK hP hD hS 0 rfl rfl 8 (by decide) (ht0 _ wd521) (fun _ h9 => h9) rfl (by decide +kernel) rfl rfl (Nat.le_of_ble_eq_true rfl) dX8_house_49 (fun H locs hP hD hS => ?_)
      have hP : va_P D vwCl (wX8_house cy aN qN aH qR aH0 qH qU qD qB aH aH0 (upd (upd vN 7 r35) 8 r46) vR_j11_26 vR_26 vH_26 vU_26 vH_next_26 vH_width_26 vR_tape vH_markNights_26 vH_markPlaces_26 vH_markFound_26 vR_thingNames_26 vR_ringNames_26 vH_places_26 vU_things_26 vU_cells_26 vU_nights_26 vU_worths_26 vH_firstCells_26 vH_kinds_26 vH_sizes_26 vH_doorOne_26 vH_doorTwo_26 vH_sorts_26 vD vD_now vB vB_ruleNumbers) H := hP
      have hD : va_D A (wX8_house cy aN qN aH qR aH0 qH qU qD qB aH aH0 (upd (upd vN 7 r35) 8 r46) vR_j11_26 vR_26 vH_26 vU_26 vH_next_26 vH_width_26 vR_tape vH_markNights_26 vH_markPlaces_26 vH_markFound_26 vR_thingNames_26 vR_ringNames_26 vH_places_26 vU_things_26 vU_cells_26 vU_nights_26 vU_worths_26 vH_firstCells_26 vH_kinds_26 vH_sizes_26 vH_doorOne_26 vH_doorTwo_26 vH_sorts_26 vD vD_now vB vB_ruleNumbers) := hD
      refine lv_iload_n hx hb dX8_house_52 rfl (lv_at hl 0 rfl) ?_
      refine lv_if_ne (tgt := 62) hx hb dX8_house_53 (by decide) (fun c53 => ?_) (fun c53 => ?_)
      · have hok := k_neg c53 hok
        refine lv_aload_n hx hb dX8_house_62 rfl (lv_at hl 1 rfl) ?_
        refine lv_aload_n hx hb dX8_house_63 rfl (lv_at hl 1 rfl) ?_
        refine va_get (D := D) (ci := 7) (v := .ref (qN 0)) (C := RX8) (T := TX8) (N := 9) hx hb ht0 niX8 hown hK hP 0 rfl rfl 0 (by decide) (ht0 _ wd490) (fun _ h9 => h9) rfl dX8_house_64 ?_
        refine lv_aload_n hx hb dX8_house_67 rfl (lv_at hl 1 rfl) ?_
        refine va_get (D := D) (ci := 7) (v := .ref aH) (C := RX8) (T := TX8) (N := 9) hx hb ht0 niX8 hown hK hP 0 rfl rfl 5 (by decide) (ht0 _ wd522) (fun _ h9 => h9) rfl dX8_house_68 ?_
        obtain ⟨u71, hc71, hok⟩ := k_bind hok
        try dsimp only at hok
        refine kCr (wc := (wX5_exchange cy (qN 0) aH qR aH0 aH0 vR_j11_26 vR_26)) (wc2 := (wX5_exchange cy (qN 0) aH qR aH0 aH vR_j11_26 vR_26)) (wr := [(aN, oX8 (upd (upd vN 7 r35) 8 r46) qN aH), (aH0, oX4 vH_26 qH), (qH 7, oX7 vU_26 qU), (qH 10, rI cy 36 vH_next_26), (qH 11, rI cy 36 vH_width_26), (qR 0, rB cy 900 vR_tape), (qH 17, rI cy 6 vH_markNights_26), (qH 18, rI cy 6 vH_markPlaces_26), (qH 19, rZ cy 6 vH_markFound_26), (qR 4, rJ cy 7 vR_thingNames_26), (qR 3, rJ cy 4 vR_ringNames_26), (qH 9, rI cy 4 vH_places_26), (qU 1, rI cy 6 vU_things_26), (qU 2, rI cy 6 vU_cells_26), (qU 3, rI cy 6 vU_nights_26), (qU 4, rI cy 6 vU_worths_26), (qH 16, rI cy 7 vH_firstCells_26), (qH 14, rI cy 7 vH_kinds_26), (qH 15, rI cy 7 vH_sizes_26), (qH 12, rI cy 5 vH_doorOne_26), (qH 13, rI cy 5 vH_doorTwo_26), (qH 8, rI cy 4 vH_sorts_26), (qN 1, oX1 vD qD), (qD 0, rI cy 9 vD_now), (qN 4, oX0 vB qB), (qB 0, rI cy 572 vB_ruleNumbers)]) (ws2 := (wX8_house cy aN qN aH qR aH0 qH qU qD qB aH aH (upd (upd vN 7 r35) 8 r46) vR_j11_26 vR_26 vH_26 vU_26 vH_next_26 vH_width_26 vR_tape vH_markNights_26 vH_markPlaces_26 vH_markFound_26 vR_thingNames_26 vR_ringNames_26 vH_places_26 vU_things_26 vU_cells_26 vU_nights_26 vU_worths_26 vH_firstCells_26 vH_kinds_26 vH_sizes_26 vH_doorOne_26 vH_doorTwo_26 vH_sorts_26 vD vD_now vB vB_ruleNumbers)) (kRunV (As := [.ref aH]) (rest := [.ref aN]) ⟨hx, hb, hml, hown, ht0⟩ (kX5_exchange l D cy _ (qN 0) aH qR aH0 vR_j11_26 vR_26 hc71 _ rfl) (cwV 1 ht0 (gV wd523 wd524 wd525 wd276 wd526) rfl rfl rfl (by decide +kernel) ⟨Nat.le_of_ble_eq_true rfl, Nat.le_of_ble_eq_true rfl⟩) hK hN hP hD [1] rfl (by decide) 1 4 rfl rfl rfl hl.1 rfl (Nat.le_of_ble_eq_true rfl) dX8_house_71 ⟨Nat.zero_le _, Nat.zero_le _⟩) hP hD hS hA [1] [0, 2, 3, 4, 5, 6, 7, 8, 9, 10, 11, 12, 13, 14, 15, 16, 17, 18, 19, 20, 21, 22, 23, 24, 25, 26] rfl rfl (by decide) (by decide) [0, 26, 1, 2, 3, 4, 5, 6, 7, 8, 9, 10, 11, 12, 13, 14, 15, 16, 17, 18, 19, 20, 21, 22, 23, 24, 25] (by decide) rfl rfl (fun H locs hP hD hS => ?_)
        refine va_put (D := D) (ci := 7) (v := .ref aH0) (ty := (.object "NightRound$House")) (C := RX8) (T := TX8) (N := 9) hx hb ht0 niX8 tyX8 tyX8_ok nmX8 hown hK hP hD hS 0 rfl rfl 5 (by decide) (ht0 _ wd522) (fun _ h9 => h9) rfl (by decide +kernel) rfl rfl (Nat.le_of_ble_eq_true rfl) dX8_house_74 (fun H locs hP hD hS => ?_)
        have hP : va_P D vwCl (wX8_house cy aN qN aH qR aH0 qH qU qD qB aH0 aH (upd (upd vN 7 r35) 8 r46) vR_j11_26 vR_26 vH_26 vU_26 vH_next_26 vH_width_26 vR_tape vH_markNights_26 vH_markPlaces_26 vH_markFound_26 vR_thingNames_26 vR_ringNames_26 vH_places_26 vU_things_26 vU_cells_26 vU_nights_26 vU_worths_26 vH_firstCells_26 vH_kinds_26 vH_sizes_26 vH_doorOne_26 vH_doorTwo_26 vH_sorts_26 vD vD_now vB vB_ruleNumbers) H := hP
        have hD : va_D A (wX8_house cy aN qN aH qR aH0 qH qU qD qB aH0 aH (upd (upd vN 7 r35) 8 r46) vR_j11_26 vR_26 vH_26 vU_26 vH_next_26 vH_width_26 vR_tape vH_markNights_26 vH_markPlaces_26 vH_markFound_26 vR_thingNames_26 vR_ringNames_26 vH_places_26 vU_things_26 vU_cells_26 vU_nights_26 vU_worths_26 vH_firstCells_26 vH_kinds_26 vH_sizes_26 vH_doorOne_26 vH_doorTwo_26 vH_sorts_26 vD vD_now vB vB_ruleNumbers) := hD
        refine lv_aload_n hx hb dX8_house_77 rfl (lv_at hl 1 rfl) ?_
        refine va_get (D := D) (ci := 7) (v := .ref (qN 1)) (C := RX8) (T := TX8) (N := 9) hx hb ht0 niX8 hown hK hP 0 rfl rfl 1 (by decide) (ht0 _ wd527) (fun _ h9 => h9) rfl dX8_house_78 ?_
        refine lv_aload_n hx hb dX8_house_81 rfl (lv_at hl 1 rfl) ?_
        refine va_get (D := D) (ci := 7) (v := .ref aH0) (C := RX8) (T := TX8) (N := 9) hx hb ht0 niX8 hown hK hP 0 rfl rfl 5 (by decide) (ht0 _ wd522) (fun _ h9 => h9) rfl dX8_house_82 ?_
        obtain ⟨⟨vD_85, vD_now_85⟩, hc85, hok⟩ := k_bind hok
        try dsimp only at hok
        refine kCv (wc := (wX1_begin cy (qN 1) aH0 qD qH vD vD_now vH_26 vH_firstCells_26)) (wc2 := (wX1_begin cy (qN 1) aH0 qD qH vD_85 vD_now_85 vH_26 vH_firstCells_26)) (wr := [(aN, oX8 (upd (upd vN 7 r35) 8 r46) qN aH0), (qN 0, oX5 vR_26 qR vR_j11_26 aH), (qH 7, oX7 vU_26 qU), (qH 10, rI cy 36 vH_next_26), (qH 11, rI cy 36 vH_width_26), (qR 0, rB cy 900 vR_tape), (qH 17, rI cy 6 vH_markNights_26), (qH 18, rI cy 6 vH_markPlaces_26), (qH 19, rZ cy 6 vH_markFound_26), (qR 4, rJ cy 7 vR_thingNames_26), (qR 3, rJ cy 4 vR_ringNames_26), (qH 9, rI cy 4 vH_places_26), (qU 1, rI cy 6 vU_things_26), (qU 2, rI cy 6 vU_cells_26), (qU 3, rI cy 6 vU_nights_26), (qU 4, rI cy 6 vU_worths_26), (qH 14, rI cy 7 vH_kinds_26), (qH 15, rI cy 7 vH_sizes_26), (qH 12, rI cy 5 vH_doorOne_26), (qH 13, rI cy 5 vH_doorTwo_26), (qH 8, rI cy 4 vH_sorts_26), (qN 4, oX0 vB qB), (qB 0, rI cy 572 vB_ruleNumbers)]) (ws2 := (wX8_house cy aN qN aH qR aH0 qH qU qD qB aH0 aH (upd (upd vN 7 r35) 8 r46) vR_j11_26 vR_26 vH_26 vU_26 vH_next_26 vH_width_26 vR_tape vH_markNights_26 vH_markPlaces_26 vH_markFound_26 vR_thingNames_26 vR_ringNames_26 vH_places_26 vU_things_26 vU_cells_26 vU_nights_26 vU_worths_26 vH_firstCells_26 vH_kinds_26 vH_sizes_26 vH_doorOne_26 vH_doorTwo_26 vH_sorts_26 vD_85 vD_now_85 vB vB_ruleNumbers)) (kRunV (As := [.ref aH0]) (rest := []) ⟨hx, hb, hml, hown, ht0⟩ (kX1_begin l D cy _ (qN 1) aH0 qD qH vD vD_now vH_26 vH_firstCells_26 vD_85 vD_now_85 hc85 _ rfl) (cwV 1 ht0 (gV wd528 wd529 wd530 wd74 wd531) rfl rfl rfl (by decide +kernel) ⟨Nat.le_of_ble_eq_true rfl, Nat.le_of_ble_eq_true rfl⟩) hK hN hP hD [23, 24, 2, 17] rfl (by decide) 23 1 rfl rfl rfl hl.1 rfl (Nat.le_of_ble_eq_true rfl) dX8_house_85 ⟨Nat.zero_le _, Nat.zero_le _⟩) hP hD hS hA [23, 24, 2, 17] [0, 1, 3, 4, 5, 6, 7, 8, 9, 10, 11, 12, 13, 14, 15, 16, 18, 19, 20, 21, 22, 25, 26] rfl rfl (by decide) (by decide) [0, 1, 25, 2, 3, 4, 5, 6, 7, 8, 9, 10, 11, 12, 13, 14, 15, 26, 16, 17, 18, 19, 20, 23, 24, 21, 22] (by decide) rfl rfl (fun H locs hP hD hS => ?_)
        refine lv_aload_n hx hb dX8_house_88 rfl (lv_at hl 1 rfl) ?_
        refine va_get (D := D) (ci := 7) (v := .ref (qN 4)) (C := RX8) (T := TX8) (N := 9) hx hb ht0 niX8 hown hK hP 0 rfl rfl 4 (by decide) (ht0 _ wd532) (fun _ h9 => h9) rfl dX8_house_89 ?_
        refine lv_aload_n hx hb dX8_house_92 rfl (lv_at hl 1 rfl) ?_
        refine va_get (D := D) (ci := 7) (v := .ref aH0) (C := RX8) (T := TX8) (N := 9) hx hb ht0 niX8 hown hK hP 0 rfl rfl 5 (by decide) (ht0 _ wd522) (fun _ h9 => h9) rfl dX8_house_93 ?_
        obtain ⟨⟨vB_96, vB_ruleNumbers_96⟩, hc96, hok⟩ := k_bind hok
        try dsimp only at hok
        refine kCv (wc := (wX0_learn cy (qN 4) aH0 qB qH vB vH_26 vH_markNights_26 vH_markPlaces_26 vH_markFound_26 vB_ruleNumbers)) (wc2 := (wX0_learn cy (qN 4) aH0 qB qH vB_96 vH_26 vH_markNights_26 vH_markPlaces_26 vH_markFound_26 vB_ruleNumbers_96)) (wr := [(aN, oX8 (upd (upd vN 7 r35) 8 r46) qN aH0), (qN 0, oX5 vR_26 qR vR_j11_26 aH), (qH 7, oX7 vU_26 qU), (qH 10, rI cy 36 vH_next_26), (qH 11, rI cy 36 vH_width_26), (qR 0, rB cy 900 vR_tape), (qR 4, rJ cy 7 vR_thingNames_26), (qR 3, rJ cy 4 vR_ringNames_26), (qH 9, rI cy 4 vH_places_26), (qU 1, rI cy 6 vU_things_26), (qU 2, rI cy 6 vU_cells_26), (qU 3, rI cy 6 vU_nights_26), (qU 4, rI cy 6 vU_worths_26), (qH 16, rI cy 7 vH_firstCells_26), (qH 14, rI cy 7 vH_kinds_26), (qH 15, rI cy 7 vH_sizes_26), (qH 12, rI cy 5 vH_doorOne_26), (qH 13, rI cy 5 vH_doorTwo_26), (qH 8, rI cy 4 vH_sorts_26), (qN 1, oX1 vD_85 qD), (qD 0, rI cy 9 vD_now_85)]) (ws2 := (wX8_house cy aN qN aH qR aH0 qH qU qD qB aH0 aH (upd (upd vN 7 r35) 8 r46) vR_j11_26 vR_26 vH_26 vU_26 vH_next_26 vH_width_26 vR_tape vH_markNights_26 vH_markPlaces_26 vH_markFound_26 vR_thingNames_26 vR_ringNames_26 vH_places_26 vU_things_26 vU_cells_26 vU_nights_26 vU_worths_26 vH_firstCells_26 vH_kinds_26 vH_sizes_26 vH_doorOne_26 vH_doorTwo_26 vH_sorts_26 vD_85 vD_now_85 vB_96 vB_ruleNumbers_96)) (kRunV (As := [.ref aH0]) (rest := []) ⟨hx, hb, hml, hown, ht0⟩ (kX0_learn l D cy _ (qN 4) aH0 qB qH vB vH_26 vH_markNights_26 vH_markPlaces_26 vH_markFound_26 vB_ruleNumbers vB_96 vB_ruleNumbers_96 hc96 _ rfl) (cwV 1 ht0 (gV wd533 wd534 wd535 wd14 wd536) rfl rfl rfl (by decide +kernel) ⟨Nat.le_of_ble_eq_true rfl, Nat.le_of_ble_eq_true rfl⟩) hK hN hP hD [25, 2, 7, 8, 9, 26] rfl (by decide) 25 0 rfl rfl rfl hl.1 rfl (Nat.le_of_ble_eq_true rfl) dX8_house_96 ⟨Nat.zero_le _, Nat.zero_le _⟩) hP hD hS hA [25, 2, 7, 8, 9, 26] [0, 1, 3, 4, 5, 6, 10, 11, 12, 13, 14, 15, 16, 17, 18, 19, 20, 21, 22, 23, 24] rfl rfl (by decide) (by decide) [0, 1, 22, 2, 3, 4, 5, 23, 24, 25, 6, 7, 8, 9, 10, 11, 12, 13, 14, 15, 16, 17, 18, 19, 20, 21, 26] (by decide) rfl rfl (fun H locs hP hD hS => ?_)
        refine lv_aload_n hx hb dX8_house_99 rfl (lv_at hl 1 rfl) ?_
        refine lv_aload_n hx hb dX8_house_100 rfl (lv_at hl 1 rfl) ?_
        refine va_get (D := D) (ci := 7) (v := .ref aH0) (C := RX8) (T := TX8) (N := 9) hx hb ht0 niX8 hown hK hP 0 rfl rfl 5 (by decide) (ht0 _ wd522) (fun _ h9 => h9) rfl dX8_house_101 ?_
        refine va_get (D := D) (ci := 3) (v := .int (vH_26 2)) (C := RX4) (T := TX4) (N := 20) hx hb ht0 niX4 hown hK hP 2 rfl rfl 2 (by decide) (ht0 _ wd537) (fun _ h9 => h9) rfl dX8_house_104 ?_
        obtain ⟨⟨r107, vN_107⟩, hc107, hok⟩ := k_bind hok
        try dsimp only at hok
        refine kCi (wc := (wX8_answer cy aN qN aH0 aH0 (upd (upd vN 7 r35) 8 r46))) (wc2 := (wX8_answer cy aN qN aH0 aH0 vN_107)) (wr := [(qN 0, oX5 vR_26 qR vR_j11_26 aH), (aH0, oX4 vH_26 qH), (qH 7, oX7 vU_26 qU), (qH 10, rI cy 36 vH_next_26), (qH 11, rI cy 36 vH_width_26), (qR 0, rB cy 900 vR_tape), (qH 17, rI cy 6 vH_markNights_26), (qH 18, rI cy 6 vH_markPlaces_26), (qH 19, rZ cy 6 vH_markFound_26), (qR 4, rJ cy 7 vR_thingNames_26), (qR 3, rJ cy 4 vR_ringNames_26), (qH 9, rI cy 4 vH_places_26), (qU 1, rI cy 6 vU_things_26), (qU 2, rI cy 6 vU_cells_26), (qU 3, rI cy 6 vU_nights_26), (qU 4, rI cy 6 vU_worths_26), (qH 16, rI cy 7 vH_firstCells_26), (qH 14, rI cy 7 vH_kinds_26), (qH 15, rI cy 7 vH_sizes_26), (qH 12, rI cy 5 vH_doorOne_26), (qH 13, rI cy 5 vH_doorTwo_26), (qH 8, rI cy 4 vH_sorts_26), (qN 1, oX1 vD_85 qD), (qD 0, rI cy 9 vD_now_85), (qN 4, oX0 vB_96 qB), (qB 0, rI cy 572 vB_ruleNumbers_96)]) (ws2 := (wX8_house cy aN qN aH qR aH0 qH qU qD qB aH0 aH vN_107 vR_j11_26 vR_26 vH_26 vU_26 vH_next_26 vH_width_26 vR_tape vH_markNights_26 vH_markPlaces_26 vH_markFound_26 vR_thingNames_26 vR_ringNames_26 vH_places_26 vU_things_26 vU_cells_26 vU_nights_26 vU_worths_26 vH_firstCells_26 vH_kinds_26 vH_sizes_26 vH_doorOne_26 vH_doorTwo_26 vH_sorts_26 vD_85 vD_now_85 vB_96 vB_ruleNumbers_96)) (kRunV (As := [.int (vH_26 2)]) (rest := []) ⟨hx, hb, hml, hown, ht0⟩ (kX8_answer l D cy _ aN qN aH0 (upd (upd vN 7 r35) 8 r46) (vH_26 2) r107 vN_107 hc107 _ rfl) (cwV 1 ht0 (gV wd538 wd539 wd540 wd57 wd541) rfl rfl rfl (by decide +kernel) ⟨Nat.le_of_ble_eq_true rfl, Nat.le_of_ble_eq_true rfl⟩) hK hN hP hD [0] rfl (by decide) 0 7 rfl rfl rfl hl.1 rfl (Nat.le_of_ble_eq_true rfl) dX8_house_107 ⟨Nat.zero_le _, Nat.zero_le _⟩) hP hD hS hA [0] [1, 2, 3, 4, 5, 6, 7, 8, 9, 10, 11, 12, 13, 14, 15, 16, 17, 18, 19, 20, 21, 22, 23, 24, 25, 26] rfl rfl (by decide) (by decide) [26, 0, 1, 2, 3, 4, 5, 6, 7, 8, 9, 10, 11, 12, 13, 14, 15, 16, 17, 18, 19, 20, 21, 22, 23, 24, 25] (by decide) rfl rfl (fun H locs hP hD hS => ?_)
        cases hok
        subst hQe; exact W.iret hx hb hr (fun t ht hW => ⟨⟨_, (), rfl, rfl, by rw [ht]; exact hP, va_K.moved hW.alike hK, hD⟩, hS.F ht⟩) hS.2.2 dX8_house_110
      · have hok := k_pos c53 hok
        refine lv_aload_n hx hb dX8_house_56 rfl (lv_at hl 1 rfl) ?_
        refine lv_iconst (v := 4) hx hb dX8_house_57 (by decide) ?_
        obtain ⟨⟨r58, vN_58⟩, hc58, hok⟩ := k_bind hok
        try dsimp only at hok
        refine kCi (wc := (wX8_refuse cy aN qN aH aH (upd (upd vN 7 r35) 8 r46))) (wc2 := (wX8_refuse cy aN qN aH aH vN_58)) (wr := [(qN 0, oX5 vR_26 qR vR_j11_26 aH0), (aH0, oX4 vH_26 qH), (qH 7, oX7 vU_26 qU), (qH 10, rI cy 36 vH_next_26), (qH 11, rI cy 36 vH_width_26), (qR 0, rB cy 900 vR_tape), (qH 17, rI cy 6 vH_markNights_26), (qH 18, rI cy 6 vH_markPlaces_26), (qH 19, rZ cy 6 vH_markFound_26), (qR 4, rJ cy 7 vR_thingNames_26), (qR 3, rJ cy 4 vR_ringNames_26), (qH 9, rI cy 4 vH_places_26), (qU 1, rI cy 6 vU_things_26), (qU 2, rI cy 6 vU_cells_26), (qU 3, rI cy 6 vU_nights_26), (qU 4, rI cy 6 vU_worths_26), (qH 16, rI cy 7 vH_firstCells_26), (qH 14, rI cy 7 vH_kinds_26), (qH 15, rI cy 7 vH_sizes_26), (qH 12, rI cy 5 vH_doorOne_26), (qH 13, rI cy 5 vH_doorTwo_26), (qH 8, rI cy 4 vH_sorts_26), (qN 1, oX1 vD qD), (qD 0, rI cy 9 vD_now), (qN 4, oX0 vB qB), (qB 0, rI cy 572 vB_ruleNumbers)]) (ws2 := (wX8_house cy aN qN aH qR aH0 qH qU qD qB aH aH0 vN_58 vR_j11_26 vR_26 vH_26 vU_26 vH_next_26 vH_width_26 vR_tape vH_markNights_26 vH_markPlaces_26 vH_markFound_26 vR_thingNames_26 vR_ringNames_26 vH_places_26 vU_things_26 vU_cells_26 vU_nights_26 vU_worths_26 vH_firstCells_26 vH_kinds_26 vH_sizes_26 vH_doorOne_26 vH_doorTwo_26 vH_sorts_26 vD vD_now vB vB_ruleNumbers)) (kRunV (As := [.int 4]) (rest := []) ⟨hx, hb, hml, hown, ht0⟩ (kX8_refuse l D cy _ aN qN aH (upd (upd vN 7 r35) 8 r46) (4 : Int32) r58 vN_58 hc58 _ rfl) (cwV 1 ht0 (gV wd504 wd505 wd506 wd57 wd507) rfl rfl rfl (by decide +kernel) ⟨Nat.le_of_ble_eq_true rfl, Nat.le_of_ble_eq_true rfl⟩) hK hN hP hD [0] rfl (by decide) 0 7 rfl rfl rfl hl.1 rfl (Nat.le_of_ble_eq_true rfl) dX8_house_58 ⟨Nat.zero_le _, Nat.zero_le _⟩) hP hD hS hA [0] [1, 2, 3, 4, 5, 6, 7, 8, 9, 10, 11, 12, 13, 14, 15, 16, 17, 18, 19, 20, 21, 22, 23, 24, 25, 26] rfl rfl (by decide) (by decide) [26, 0, 1, 2, 3, 4, 5, 6, 7, 8, 9, 10, 11, 12, 13, 14, 15, 16, 17, 18, 19, 20, 21, 22, 23, 24, 25] (by decide) rfl rfl (fun H locs hP hD hS => ?_)
        cases hok
        subst hQe; exact W.iret hx hb hr (fun t ht hW => ⟨⟨_, (), rfl, rfl, by rw [ht]; exact hP, va_K.moved hW.alike hK, hD⟩, hS.F ht⟩) hS.2.2 dX8_house_61
    · have hok := k_neg c12 hok
      exact J15  H locs ls hP hD hS (lv_sub hl [0] rfl) hok
def wsX8_fault : List Cond := .code yX8_fault cX8_fault 1 (some .int) :: W0
abbrev wX8_fault (cy : Nat → ClassId) (aN : Nat) (qN : Nat → Nat) (aH : Nat) (fvN_5 : Nat) (vN : Nat → Int32) : va_W := [(aN, oX8 vN qN fvN_5)]
set_option maxHeartbeats 4000000 in
set_option maxRecDepth 100000 in
theorem kX8_fault (l : Launch) (D : va_G) (cy : Nat → ClassId) (sz : Nat) (aN : Nat) (qN : Nat → Nat) (aH : Nat) (vN : Nat → Int32) (zr : Int32) (hok : fX8_fault vN = some zr) (A : Nat → Prop) (hAe : va_A (wX8_fault cy aN qN aH aH vN) sz = A) : Met l yX8_fault wsX8_fault ({ frames := 0, cells := 0, slots := 0, locals := 0 } : Room) (kPre D cy [.ref aN] (wX8_fault cy aN qN aH aH vN) sz) (kQi D cy zr A (wX8_fault cy aN qN aH aH vN)) 0 0 A := by
  refine Met.ofW (cc := cX8_fault) (maxL := 1) (ret := (some .int)) (by decide) rfl ?_
  intro p e s m args below meth c s₁ B hml hv
  obtain ⟨rfl, hsz, hP, hK, hD0, hN⟩ := hv
  have hx := B.exec
  have hb := B.bytes
  have hr := B.returns
  have ht0 : ∀ w ∈ W0, w.before _ s = true := fun w h => atoms_spec (ws := wsX8_fault) B.pre w (List.mem_cons_of_mem _ h)
  have hown : s.vm.findClass RX8 = some m.cls := findClass_of_methodNamed B.named
  have hlocks := B.notSynchronized
  subst hsz
  have hD : va_D A (wX8_fault cy aN qN aH aH vN) := by rw [← hAe]; exact hD0.self
  have hA : ∀ q : Nat, s.heap.size ≤ q → A q := fun q h => by rw [← hAe]; exact Or.inr h
  have hS : va_S A s.heap s.heap [] := va_S.rf
  have hl := lv_entry ([.ref aN]) (n := 1) (Nat.le_of_ble_eq_true rfl)
  rw [lg_entry_eq]
  generalize (lg_sl ([.ref aN]) ++ List.replicate (1 - (lg_sl ([.ref aN])).length) Slot.unset).toArray = ls at hl ⊢
  have hl : lv_has ls 1 [(0, .ref aN)] := hl
  unfold fX8_fault at hok
  obtain ⟨H, hH⟩ : ∃ H, H = s.heap := ⟨_, rfl⟩
  obtain ⟨locs, hlc⟩ : ∃ x : List Loc, x = [] := ⟨_, rfl⟩
  have hP : va_P D vwCl (wX8_fault cy aN qN aH aH vN) H := by rw [hH]; exact hP
  have hS : va_S A s.heap H locs := by rw [hH, hlc]; exact hS
  rw [show W p l e _ s m _ below meth c s.heap [] = W p l e _ s m _ below meth c H locs from by rw [hH, hlc]]
  refine lv_aload_n hx hb dX8_fault_0 rfl (lv_at hl 0 rfl) ?_
  refine va_get (D := D) (ci := 7) (v := .int (vN 7)) (C := RX8) (T := TX8) (N := 9) hx hb ht0 niX8 hown hK hP 0 rfl rfl 7 (by decide) (ht0 _ wd516) (fun _ h9 => h9) rfl dX8_fault_1 ?_
  cases hok
  exact W.iret hx hb hr (fun t ht hW => ⟨⟨_, (), rfl, rfl, by rw [ht]; exact hP, va_K.moved hW.alike hK, hD⟩, hS.F ht⟩) hS.2.2 dX8_fault_4
def wsX8_where : List Cond := .code yX8_where cX8_where 1 (some .int) :: W0
abbrev wX8_where (cy : Nat → ClassId) (aN : Nat) (qN : Nat → Nat) (aH : Nat) (fvN_5 : Nat) (vN : Nat → Int32) : va_W := [(aN, oX8 vN qN fvN_5)]
set_option maxHeartbeats 4000000 in
set_option maxRecDepth 100000 in
theorem kX8_where (l : Launch) (D : va_G) (cy : Nat → ClassId) (sz : Nat) (aN : Nat) (qN : Nat → Nat) (aH : Nat) (vN : Nat → Int32) (zr : Int32) (hok : fX8_where vN = some zr) (A : Nat → Prop) (hAe : va_A (wX8_where cy aN qN aH aH vN) sz = A) : Met l yX8_where wsX8_where ({ frames := 0, cells := 0, slots := 0, locals := 0 } : Room) (kPre D cy [.ref aN] (wX8_where cy aN qN aH aH vN) sz) (kQi D cy zr A (wX8_where cy aN qN aH aH vN)) 0 0 A := by
  refine Met.ofW (cc := cX8_where) (maxL := 1) (ret := (some .int)) (by decide) rfl ?_
  intro p e s m args below meth c s₁ B hml hv
  obtain ⟨rfl, hsz, hP, hK, hD0, hN⟩ := hv
  have hx := B.exec
  have hb := B.bytes
  have hr := B.returns
  have ht0 : ∀ w ∈ W0, w.before _ s = true := fun w h => atoms_spec (ws := wsX8_where) B.pre w (List.mem_cons_of_mem _ h)
  have hown : s.vm.findClass RX8 = some m.cls := findClass_of_methodNamed B.named
  have hlocks := B.notSynchronized
  subst hsz
  have hD : va_D A (wX8_where cy aN qN aH aH vN) := by rw [← hAe]; exact hD0.self
  have hA : ∀ q : Nat, s.heap.size ≤ q → A q := fun q h => by rw [← hAe]; exact Or.inr h
  have hS : va_S A s.heap s.heap [] := va_S.rf
  have hl := lv_entry ([.ref aN]) (n := 1) (Nat.le_of_ble_eq_true rfl)
  rw [lg_entry_eq]
  generalize (lg_sl ([.ref aN]) ++ List.replicate (1 - (lg_sl ([.ref aN])).length) Slot.unset).toArray = ls at hl ⊢
  have hl : lv_has ls 1 [(0, .ref aN)] := hl
  generalize hQe : MQ below (kQi D cy zr A (wX8_where cy aN qN aH aH vN)) ([.ref aN] : List Value).toArray s 0 0 A = Q
  have J16 : ∀ (t0_16 : Int32), ∀ (H : Heap) (locs : List Loc) (ls : Array Slot), va_P D vwCl (wX8_where cy aN qN aH aH vN) H → va_D A (wX8_where cy aN qN aH aH vN) → va_S A s.heap H locs → lv_has ls 1 [] → fX8_where_J16 t0_16 = some zr → W p l e ({ frames := 0, cells := 0, slots := 0, locals := 0 } : Room) s m ([.ref aN] : List Value).toArray below meth c H locs 0 0 Q (F0 m 16 ls [.int t0_16]) := by
    intro t0_16 H locs ls hP hD hS hl hok
    unfold fX8_where_J16 at hok
    cases hok
    subst hQe; exact W.iret hx hb hr (fun t ht hW => ⟨⟨_, (), rfl, rfl, by rw [ht]; exact hP, va_K.moved hW.alike hK, hD⟩, hS.F ht⟩) hS.2.2 dX8_where_16
  unfold fX8_where at hok
  obtain ⟨H, hH⟩ : ∃ H, H = s.heap := ⟨_, rfl⟩
  obtain ⟨locs, hlc⟩ : ∃ x : List Loc, x = [] := ⟨_, rfl⟩
  have hP : va_P D vwCl (wX8_where cy aN qN aH aH vN) H := by rw [hH]; exact hP
  have hS : va_S A s.heap H locs := by rw [hH, hlc]; exact hS
  rw [show W p l e _ s m _ below meth c s.heap [] = W p l e _ s m _ below meth c H locs from by rw [hH, hlc]]
  refine lv_aload_n hx hb dX8_where_0 rfl (lv_at hl 0 rfl) ?_
  refine va_get (D := D) (ci := 7) (v := .int (vN 6)) (C := RX8) (T := TX8) (N := 9) hx hb ht0 niX8 hown hK hP 0 rfl rfl 6 (by decide) (ht0 _ wd503) (fun _ h9 => h9) rfl dX8_where_1 ?_
  refine lv_iconst (v := 4) hx hb dX8_where_4 (by decide) ?_
  refine lv_icmp_ne (tgt := 15) hx hb dX8_where_5 (by decide) (fun c5 => ?_) (fun c5 => ?_)
  · have hok := k_neg c5 hok
    refine lv_iconst (v := -1) hx hb dX8_where_15 (by decide) ?_
    exact J16 (-1 : Int32) H locs ls hP hD hS (lv_sub hl [] rfl) hok
  · have hok := k_pos c5 hok
    refine lv_aload_n hx hb dX8_where_8 rfl (lv_at hl 0 rfl) ?_
    refine va_get (D := D) (ci := 7) (v := .int (vN 8)) (C := RX8) (T := TX8) (N := 9) hx hb ht0 niX8 hown hK hP 0 rfl rfl 8 (by decide) (ht0 _ wd521) (fun _ h9 => h9) rfl dX8_where_9 ?_
    refine lv_goto (tgt := 16) hx hb dX8_where_12 (by decide) ?_
    exact J16 (vN 8) H locs ls hP hD hS (lv_sub hl [] rfl) hok
def wsX8_ring : List Cond := .code yX8_ring cX8_ring 4 (some .int) :: W0
abbrev wX8_ring (cy : Nat → ClassId) (aN : Nat) (qN : Nat → Nat) (aH : Nat) (qH : Nat → Nat) (qD : Nat → Nat) (fvN_5 : Nat) (vN : Nat → Int32) (vH : Nat → Int32) (vD : Nat → Int32) (vD_now : Nat → Int32) (vH_sorts : Nat → Int32) (vH_places : Nat → Int32) : va_W := [(aN, oX8 vN qN fvN_5), (aH, oX4 vH qH), (qN 1, oX1 vD qD), (qD 0, rI cy 9 vD_now), (qH 8, rI cy 4 vH_sorts), (qH 9, rI cy 4 vH_places)]
set_option maxHeartbeats 4000000 in
set_option maxRecDepth 100000 in
theorem kX8_ring (l : Launch) (D : va_G) (cy : Nat → ClassId) (sz : Nat) (aN : Nat) (qN : Nat → Nat) (aH : Nat) (qH : Nat → Nat) (qD : Nat → Nat) (vN : Nat → Int32) (vH : Nat → Int32) (vD : Nat → Int32) (vD_now : Nat → Int32) (vH_sorts : Nat → Int32) (vH_places : Nat → Int32) (x1 : Int32) (x2 : Int32) (zr : Int32) (z_vN : Nat → Int32) (hok : fX8_ring vN vH vD vD_now vH_sorts vH_places x1 x2 = some (zr, z_vN)) (A : Nat → Prop) (hAe : va_A (wX8_ring cy aN qN aH qH qD aH vN vH vD vD_now vH_sorts vH_places) sz = A) : Met l yX8_ring wsX8_ring ({ frames := 2, cells := 0, slots := 0, locals := 44 } : Room) (kPre D cy [.ref aN, .int x1, .int x2] (wX8_ring cy aN qN aH qH qD aH vN vH vD vD_now vH_sorts vH_places) sz) (kQi D cy zr A (wX8_ring cy aN qN aH qH qD aH z_vN vH vD vD_now vH_sorts vH_places)) 0 0 A := by
  refine Met.ofW (cc := cX8_ring) (maxL := 4) (ret := (some .int)) (by decide) rfl ?_
  intro p e s m args below meth c s₁ B hml hv
  obtain ⟨rfl, hsz, hP, hK, hD0, hN⟩ := hv
  have hx := B.exec
  have hb := B.bytes
  have hr := B.returns
  have ht0 : ∀ w ∈ W0, w.before _ s = true := fun w h => atoms_spec (ws := wsX8_ring) B.pre w (List.mem_cons_of_mem _ h)
  have hown : s.vm.findClass RX8 = some m.cls := findClass_of_methodNamed B.named
  have hlocks := B.notSynchronized
  subst hsz
  have hD : va_D A (wX8_ring cy aN qN aH qH qD aH vN vH vD vD_now vH_sorts vH_places) := by rw [← hAe]; exact hD0.self
  have hA : ∀ q : Nat, s.heap.size ≤ q → A q := fun q h => by rw [← hAe]; exact Or.inr h
  have hS : va_S A s.heap s.heap [] := va_S.rf
  have hl := lv_entry ([.ref aN, .int x1, .int x2]) (n := 4) (Nat.le_of_ble_eq_true rfl)
  rw [lg_entry_eq]
  generalize (lg_sl ([.ref aN, .int x1, .int x2]) ++ List.replicate (4 - (lg_sl ([.ref aN, .int x1, .int x2])).length) Slot.unset).toArray = ls at hl ⊢
  have hl : lv_has ls 4 [(0, .ref aN), (1, .int x1), (2, .int x2)] := hl
  generalize hQe : MQ below (kQi D cy zr A (wX8_ring cy aN qN aH qH qD aH z_vN vH vD vD_now vH_sorts vH_places)) ([.ref aN, .int x1, .int x2] : List Value).toArray s 0 0 A = Q
  have J20 : ∀ (H : Heap) (locs : List Loc) (ls : Array Slot), va_P D vwCl (wX8_ring cy aN qN aH qH qD aH vN vH vD vD_now vH_sorts vH_places) H → va_D A (wX8_ring cy aN qN aH qH qD aH vN vH vD vD_now vH_sorts vH_places) → va_S A s.heap H locs → lv_has ls 4 [(0, .ref aN)] → fX8_ring_J20 vN = some (zr, z_vN) → W p l e ({ frames := 2, cells := 0, slots := 0, locals := 44 } : Room) s m ([.ref aN, .int x1, .int x2] : List Value).toArray below meth c H locs 0 0 Q (F0 m 20 ls []) := by
    intro  H locs ls hP hD hS hl hok
    unfold fX8_ring_J20 at hok
    refine lv_aload_n hx hb dX8_ring_20 rfl (lv_at hl 0 rfl) ?_
    refine lv_iconst (v := 1) hx hb dX8_ring_21 (by decide) ?_
    obtain ⟨⟨r22, vN_22⟩, hc22, hok⟩ := k_bind hok
    try dsimp only at hok
    refine kCi (wc := (wX8_refuse cy aN qN aH aH vN)) (wc2 := (wX8_refuse cy aN qN aH aH vN_22)) (wr := [(aH, oX4 vH qH), (qN 1, oX1 vD qD), (qD 0, rI cy 9 vD_now), (qH 8, rI cy 4 vH_sorts), (qH 9, rI cy 4 vH_places)]) (ws2 := (wX8_ring cy aN qN aH qH qD aH vN_22 vH vD vD_now vH_sorts vH_places)) (kRunV (As := [.int 1]) (rest := []) ⟨hx, hb, hml, hown, ht0⟩ (kX8_refuse l D cy _ aN qN aH vN (1 : Int32) r22 vN_22 hc22 _ rfl) (cwV 1 ht0 (gV wd504 wd505 wd506 wd57 wd507) rfl rfl rfl (by decide +kernel) ⟨Nat.le_of_ble_eq_true rfl, Nat.le_of_ble_eq_true rfl⟩) hK hN hP hD [0] rfl (by decide) 0 7 rfl rfl rfl hl.1 rfl (Nat.le_of_ble_eq_true rfl) dX8_ring_22 ⟨Nat.zero_le _, Nat.zero_le _⟩) hP hD hS hA [0] [1, 2, 3, 4, 5] rfl rfl (by decide) (by decide) [5, 0, 1, 2, 3, 4] (by decide) rfl rfl (fun H locs hP hD hS => ?_)
    cases hok
    subst hQe; exact W.iret hx hb hr (fun t ht hW => ⟨⟨_, (), rfl, rfl, by rw [ht]; exact hP, va_K.moved hW.alike hK, hD⟩, hS.F ht⟩) hS.2.2 dX8_ring_25
  unfold fX8_ring at hok
  obtain ⟨H, hH⟩ : ∃ H, H = s.heap := ⟨_, rfl⟩
  obtain ⟨locs, hlc⟩ : ∃ x : List Loc, x = [] := ⟨_, rfl⟩
  have hP : va_P D vwCl (wX8_ring cy aN qN aH qH qD aH vN vH vD vD_now vH_sorts vH_places) H := by rw [hH]; exact hP
  have hS : va_S A s.heap H locs := by rw [hH, hlc]; exact hS
  rw [show W p l e _ s m _ below meth c s.heap [] = W p l e _ s m _ below meth c H locs from by rw [hH, hlc]]
  refine lv_aload_n hx hb dX8_ring_0 rfl (lv_at hl 0 rfl) ?_
  refine va_get (D := D) (ci := 7) (v := .ref aH) (C := RX8) (T := TX8) (N := 9) hx hb ht0 niX8 hown hK hP 0 rfl rfl 5 (by decide) (ht0 _ wd522) (fun _ h9 => h9) rfl dX8_ring_1 ?_
  refine lv_iload_n hx hb dX8_ring_4 rfl (lv_at hl 1 rfl) ?_
  obtain ⟨r5, hc5, hok⟩ := k_bind hok
  refine kCi (wc := (wX4_hasRing cy aH qH vH)) (wc2 := (wX4_hasRing cy aH qH vH)) (wr := [(aN, oX8 vN qN aH), (qN 1, oX1 vD qD), (qD 0, rI cy 9 vD_now), (qH 8, rI cy 4 vH_sorts), (qH 9, rI cy 4 vH_places)]) (ws2 := (wX8_ring cy aN qN aH qH qD aH vN vH vD vD_now vH_sorts vH_places)) (kRunV (As := [.int x1]) (rest := []) ⟨hx, hb, hml, hown, ht0⟩ (kX4_hasRing l D cy _ aH qH vH x1 r5 hc5 _ rfl) (cwV 1 ht0 (gV wd542 wd95 wd96 wd9 wd97) rfl rfl rfl (by decide +kernel) ⟨Nat.le_of_ble_eq_true rfl, Nat.le_of_ble_eq_true rfl⟩) hK hN hP hD [1] rfl (by decide) 1 3 rfl rfl rfl hl.1 rfl (Nat.le_of_ble_eq_true rfl) dX8_ring_5 ⟨Nat.zero_le _, Nat.zero_le _⟩) hP hD hS hA [1] [0, 2, 3, 4, 5] rfl rfl (by decide) (by decide) [0, 5, 1, 2, 3, 4] (by decide) rfl rfl (fun H locs hP hD hS => ?_)
  refine lv_if_eq (tgt := 20) hx hb dX8_ring_8 (by decide) (fun c8 => ?_) (fun c8 => ?_)
  · have hok := k_pos c8 hok
    exact J20  H locs ls hP hD hS (lv_sub hl [0] rfl) hok
  · have hok := k_neg c8 hok
    refine lv_iload_n hx hb dX8_ring_11 rfl (lv_at hl 2 rfl) ?_
    refine lv_if_lt (tgt := 20) hx hb dX8_ring_12 (by decide) (fun c12 => ?_) (fun c12 => ?_)
    · have hok := k_pos c12 hok
      exact J20  H locs ls hP hD hS (lv_sub hl [0] rfl) hok
    · have hok := k_neg c12 hok
      refine lv_iload_n hx hb dX8_ring_15 rfl (lv_at hl 2 rfl) ?_
      refine lv_iconst (v := 3) hx hb dX8_ring_16 (by decide) ?_
      refine lv_icmp_le (tgt := 26) hx hb dX8_ring_17 (by decide) (fun c17 => ?_) (fun c17 => ?_)
      · have hok := k_pos c17 hok
        refine lv_aload_n hx hb dX8_ring_26 rfl (lv_at hl 0 rfl) ?_
        refine va_get (D := D) (ci := 7) (v := .ref (qN 1)) (C := RX8) (T := TX8) (N := 9) hx hb ht0 niX8 hown hK hP 0 rfl rfl 1 (by decide) (ht0 _ wd527) (fun _ h9 => h9) rfl dX8_ring_27 ?_
        refine lv_iload_n hx hb dX8_ring_30 rfl (lv_at hl 1 rfl) ?_
        refine lv_aload_n hx hb dX8_ring_31 rfl (lv_at hl 0 rfl) ?_
        refine va_get (D := D) (ci := 7) (v := .ref aH) (C := RX8) (T := TX8) (N := 9) hx hb ht0 niX8 hown hK hP 0 rfl rfl 5 (by decide) (ht0 _ wd522) (fun _ h9 => h9) rfl dX8_ring_32 ?_
        refine va_get (D := D) (ci := 3) (v := .int (vH 5)) (C := RX4) (T := TX4) (N := 20) hx hb ht0 niX4 hown hK hP 1 rfl rfl 5 (by decide) (ht0 _ wd543) (fun _ h9 => h9) rfl dX8_ring_35 ?_
        obtain ⟨r38, hc38, hok⟩ := k_bind hok
        refine kCi (wc := (wX1_thingsIn cy (qN 1) qD vD vD_now)) (wc2 := (wX1_thingsIn cy (qN 1) qD vD vD_now)) (wr := [(aN, oX8 vN qN aH), (aH, oX4 vH qH), (qH 8, rI cy 4 vH_sorts), (qH 9, rI cy 4 vH_places)]) (ws2 := (wX8_ring cy aN qN aH qH qD aH vN vH vD vD_now vH_sorts vH_places)) (kRunV (As := [.int x1, .int (vH 5)]) (rest := []) ⟨hx, hb, hml, hown, ht0⟩ (kX1_thingsIn l D cy _ (qN 1) qD vD vD_now x1 (vH 5) r38 hc38 _ rfl) (cwV 2 ht0 (gV wd544 wd545 wd546 wd74 wd547) rfl rfl rfl (by decide +kernel) ⟨Nat.le_of_ble_eq_true rfl, Nat.le_of_ble_eq_true rfl⟩) hK hN hP hD [2, 3] rfl (by decide) 2 1 rfl rfl rfl hl.1 rfl (Nat.le_of_ble_eq_true rfl) dX8_ring_38 ⟨Nat.zero_le _, Nat.zero_le _⟩) hP hD hS hA [2, 3] [0, 1, 4, 5] rfl rfl (by decide) (by decide) [0, 1, 4, 5, 2, 3] (by decide) rfl rfl (fun H locs hP hD hS => ?_)
        refine lv_istore_n (lv' := [(3, .int r38), (0, .ref aN), (1, .int x1), (2, .int x2)]) hx hb dX8_ring_41 rfl hl (by decide) rfl (fun ls hl => ?_)
        refine lv_iload_n hx hb dX8_ring_42 rfl (lv_at hl 3 rfl) ?_
        by_cases c43_0 : x2 = 0
        · have hok := k_pos c43_0 hok
          refine lv_tableIn (tgt := 68) (off := 25) hx hb dX8_ring_43 (by rw [c43_0]; decide) (by rw [c43_0]; decide) (by rw [c43_0]; decide) (by decide) ?_
          refine lv_aload_n hx hb dX8_ring_68 rfl (lv_at hl 1 rfl) ?_
          refine lv_aload_n hx hb dX8_ring_69 rfl (lv_at hl 1 rfl) ?_
          refine va_get (D := D) (ci := 7) (v := .ref aH) (C := RX8) (T := TX8) (N := 9) hx hb ht0 niX8 hown hK hP 0 rfl rfl 5 (by decide) (ht0 _ wd522) (fun _ h9 => h9) rfl dX8_ring_70 ?_
          refine lv_iload_n hx hb dX8_ring_73 rfl (lv_at hl 2 rfl) ?_
          obtain ⟨r74, hc74, hok⟩ := k_bind hok
          refine kCi (wc := (wX4_sortOf cy aH qH vH vH_sorts)) (wc2 := (wX4_sortOf cy aH qH vH vH_sorts)) (wr := [(aN, oX8 vN qN aH), (qN 1, oX1 vD qD), (qD 0, rI cy 9 vD_now), (qH 9, rI cy 4 vH_places)]) (ws2 := (wX8_ring cy aN qN aH qH qD aH vN vH vD vD_now vH_sorts vH_places)) (kRunV (As := [.int x1]) (rest := [.ref aN]) ⟨hx, hb, hml, hown, ht0⟩ (kX4_sortOf l D cy _ aH qH vH vH_sorts x1 r74 hc74 _ rfl) (cwV 1 ht0 (gV wd548 wd103 wd104 wd9 wd105) rfl rfl rfl (by decide +kernel) ⟨Nat.le_of_ble_eq_true rfl, Nat.le_of_ble_eq_true rfl⟩) hK hN hP hD [1, 4] rfl (by decide) 1 3 rfl rfl rfl hl.1 rfl (Nat.le_of_ble_eq_true rfl) dX8_ring_74 ⟨Nat.zero_le _, Nat.zero_le _⟩) hP hD hS hA [1, 4] [0, 2, 3, 5] rfl rfl (by decide) (by decide) [0, 4, 1, 2, 5, 3] (by decide) rfl rfl (fun H locs hP hD hS => ?_)
          obtain ⟨⟨r77, vN_77⟩, hc77, hok⟩ := k_bind hok
          try dsimp only at hok
          refine kCi (wc := (wX8_answer cy aN qN aH aH vN)) (wc2 := (wX8_answer cy aN qN aH aH vN_77)) (wr := [(aH, oX4 vH qH), (qN 1, oX1 vD qD), (qD 0, rI cy 9 vD_now), (qH 8, rI cy 4 vH_sorts), (qH 9, rI cy 4 vH_places)]) (ws2 := (wX8_ring cy aN qN aH qH qD aH vN_77 vH vD vD_now vH_sorts vH_places)) (kRunV (As := [.int r74]) (rest := []) ⟨hx, hb, hml, hown, ht0⟩ (kX8_answer l D cy _ aN qN aH vN r74 r77 vN_77 hc77 _ rfl) (cwV 1 ht0 (gV wd538 wd539 wd540 wd57 wd541) rfl rfl rfl (by decide +kernel) ⟨Nat.le_of_ble_eq_true rfl, Nat.le_of_ble_eq_true rfl⟩) hK hN hP hD [0] rfl (by decide) 0 7 rfl rfl rfl hl.1 rfl (Nat.le_of_ble_eq_true rfl) dX8_ring_77 ⟨Nat.zero_le _, Nat.zero_le _⟩) hP hD hS hA [0] [1, 2, 3, 4, 5] rfl rfl (by decide) (by decide) [5, 0, 1, 2, 3, 4] (by decide) rfl rfl (fun H locs hP hD hS => ?_)
          cases hok
          subst hQe; exact W.iret hx hb hr (fun t ht hW => ⟨⟨_, (), rfl, rfl, by rw [ht]; exact hP, va_K.moved hW.alike hK, hD⟩, hS.F ht⟩) hS.2.2 dX8_ring_80
        have hok := k_neg c43_0 hok
        by_cases c43_1 : x2 = 1
        · have hok := k_pos c43_1 hok
          refine lv_tableIn (tgt := 81) (off := 38) hx hb dX8_ring_43 (by rw [c43_1]; decide) (by rw [c43_1]; decide) (by rw [c43_1]; decide) (by decide) ?_
          refine lv_aload_n hx hb dX8_ring_81 rfl (lv_at hl 1 rfl) ?_
          refine lv_aload_n hx hb dX8_ring_82 rfl (lv_at hl 1 rfl) ?_
          refine va_get (D := D) (ci := 7) (v := .ref aH) (C := RX8) (T := TX8) (N := 9) hx hb ht0 niX8 hown hK hP 0 rfl rfl 5 (by decide) (ht0 _ wd522) (fun _ h9 => h9) rfl dX8_ring_83 ?_
          refine lv_iload_n hx hb dX8_ring_86 rfl (lv_at hl 2 rfl) ?_
          obtain ⟨r87, hc87, hok⟩ := k_bind hok
          refine kCi (wc := (wX4_placesOf cy aH qH vH vH_places)) (wc2 := (wX4_placesOf cy aH qH vH vH_places)) (wr := [(aN, oX8 vN qN aH), (qN 1, oX1 vD qD), (qD 0, rI cy 9 vD_now), (qH 8, rI cy 4 vH_sorts)]) (ws2 := (wX8_ring cy aN qN aH qH qD aH vN vH vD vD_now vH_sorts vH_places)) (kRunV (As := [.int x1]) (rest := [.ref aN]) ⟨hx, hb, hml, hown, ht0⟩ (kX4_placesOf l D cy _ aH qH vH vH_places x1 r87 hc87 _ rfl) (cwV 1 ht0 (gV wd549 wd257 wd258 wd9 wd259) rfl rfl rfl (by decide +kernel) ⟨Nat.le_of_ble_eq_true rfl, Nat.le_of_ble_eq_true rfl⟩) hK hN hP hD [1, 5] rfl (by decide) 1 3 rfl rfl rfl hl.1 rfl (Nat.le_of_ble_eq_true rfl) dX8_ring_87 ⟨Nat.zero_le _, Nat.zero_le _⟩) hP hD hS hA [1, 5] [0, 2, 3, 4] rfl rfl (by decide) (by decide) [0, 4, 1, 2, 3, 5] (by decide) rfl rfl (fun H locs hP hD hS => ?_)
          obtain ⟨⟨r90, vN_90⟩, hc90, hok⟩ := k_bind hok
          try dsimp only at hok
          refine kCi (wc := (wX8_answer cy aN qN aH aH vN)) (wc2 := (wX8_answer cy aN qN aH aH vN_90)) (wr := [(aH, oX4 vH qH), (qN 1, oX1 vD qD), (qD 0, rI cy 9 vD_now), (qH 8, rI cy 4 vH_sorts), (qH 9, rI cy 4 vH_places)]) (ws2 := (wX8_ring cy aN qN aH qH qD aH vN_90 vH vD vD_now vH_sorts vH_places)) (kRunV (As := [.int r87]) (rest := []) ⟨hx, hb, hml, hown, ht0⟩ (kX8_answer l D cy _ aN qN aH vN r87 r90 vN_90 hc90 _ rfl) (cwV 1 ht0 (gV wd538 wd539 wd540 wd57 wd541) rfl rfl rfl (by decide +kernel) ⟨Nat.le_of_ble_eq_true rfl, Nat.le_of_ble_eq_true rfl⟩) hK hN hP hD [0] rfl (by decide) 0 7 rfl rfl rfl hl.1 rfl (Nat.le_of_ble_eq_true rfl) dX8_ring_90 ⟨Nat.zero_le _, Nat.zero_le _⟩) hP hD hS hA [0] [1, 2, 3, 4, 5] rfl rfl (by decide) (by decide) [5, 0, 1, 2, 3, 4] (by decide) rfl rfl (fun H locs hP hD hS => ?_)
          cases hok
          subst hQe; exact W.iret hx hb hr (fun t ht hW => ⟨⟨_, (), rfl, rfl, by rw [ht]; exact hP, va_K.moved hW.alike hK, hD⟩, hS.F ht⟩) hS.2.2 dX8_ring_93
        have hok := k_neg c43_1 hok
        by_cases c43_2 : x2 = 2
        · have hok := k_pos c43_2 hok
          refine lv_tableIn (tgt := 94) (off := 51) hx hb dX8_ring_43 (by rw [c43_2]; decide) (by rw [c43_2]; decide) (by rw [c43_2]; decide) (by decide) ?_
          refine lv_aload_n hx hb dX8_ring_94 rfl (lv_at hl 1 rfl) ?_
          refine lv_iload_n hx hb dX8_ring_95 rfl (lv_at hl 0 rfl) ?_
          obtain ⟨⟨r96, vN_96⟩, hc96, hok⟩ := k_bind hok
          try dsimp only at hok
          refine kCi (wc := (wX8_answer cy aN qN aH aH vN)) (wc2 := (wX8_answer cy aN qN aH aH vN_96)) (wr := [(aH, oX4 vH qH), (qN 1, oX1 vD qD), (qD 0, rI cy 9 vD_now), (qH 8, rI cy 4 vH_sorts), (qH 9, rI cy 4 vH_places)]) (ws2 := (wX8_ring cy aN qN aH qH qD aH vN_96 vH vD vD_now vH_sorts vH_places)) (kRunV (As := [.int r38]) (rest := []) ⟨hx, hb, hml, hown, ht0⟩ (kX8_answer l D cy _ aN qN aH vN r38 r96 vN_96 hc96 _ rfl) (cwV 1 ht0 (gV wd538 wd539 wd540 wd57 wd541) rfl rfl rfl (by decide +kernel) ⟨Nat.le_of_ble_eq_true rfl, Nat.le_of_ble_eq_true rfl⟩) hK hN hP hD [0] rfl (by decide) 0 7 rfl rfl rfl hl.1 rfl (Nat.le_of_ble_eq_true rfl) dX8_ring_96 ⟨Nat.zero_le _, Nat.zero_le _⟩) hP hD hS hA [0] [1, 2, 3, 4, 5] rfl rfl (by decide) (by decide) [5, 0, 1, 2, 3, 4] (by decide) rfl rfl (fun H locs hP hD hS => ?_)
          cases hok
          subst hQe; exact W.iret hx hb hr (fun t ht hW => ⟨⟨_, (), rfl, rfl, by rw [ht]; exact hP, va_K.moved hW.alike hK, hD⟩, hS.F ht⟩) hS.2.2 dX8_ring_99
        have hok := k_neg c43_2 hok
        refine lv_tableOut (tgt := 100) hx hb dX8_ring_43 (by have q0 := lv_neT c43_0 (a := 0) (by decide); have q1 := lv_neT c43_1 (a := 1) (by decide); have q2 := lv_neT c43_2 (a := 2) (by decide); omega) (by decide) ?_
        refine lv_aload_n hx hb dX8_ring_100 rfl (lv_at hl 1 rfl) ?_
        refine lv_aload_n hx hb dX8_ring_101 rfl (lv_at hl 1 rfl) ?_
        refine va_get (D := D) (ci := 7) (v := .ref aH) (C := RX8) (T := TX8) (N := 9) hx hb ht0 niX8 hown hK hP 0 rfl rfl 5 (by decide) (ht0 _ wd522) (fun _ h9 => h9) rfl dX8_ring_102 ?_
        refine lv_iload_n hx hb dX8_ring_105 rfl (lv_at hl 2 rfl) ?_
        obtain ⟨r106, hc106, hok⟩ := k_bind hok
        refine kCi (wc := (wX4_placesOf cy aH qH vH vH_places)) (wc2 := (wX4_placesOf cy aH qH vH vH_places)) (wr := [(aN, oX8 vN qN aH), (qN 1, oX1 vD qD), (qD 0, rI cy 9 vD_now), (qH 8, rI cy 4 vH_sorts)]) (ws2 := (wX8_ring cy aN qN aH qH qD aH vN vH vD vD_now vH_sorts vH_places)) (kRunV (As := [.int x1]) (rest := [.ref aN]) ⟨hx, hb, hml, hown, ht0⟩ (kX4_placesOf l D cy _ aH qH vH vH_places x1 r106 hc106 _ rfl) (cwV 1 ht0 (gV wd549 wd257 wd258 wd9 wd259) rfl rfl rfl (by decide +kernel) ⟨Nat.le_of_ble_eq_true rfl, Nat.le_of_ble_eq_true rfl⟩) hK hN hP hD [1, 5] rfl (by decide) 1 3 rfl rfl rfl hl.1 rfl (Nat.le_of_ble_eq_true rfl) dX8_ring_106 ⟨Nat.zero_le _, Nat.zero_le _⟩) hP hD hS hA [1, 5] [0, 2, 3, 4] rfl rfl (by decide) (by decide) [0, 4, 1, 2, 3, 5] (by decide) rfl rfl (fun H locs hP hD hS => ?_)
        refine lv_iload_n hx hb dX8_ring_109 rfl (lv_at hl 0 rfl) ?_
        obtain ⟨r110, hc110, hok⟩ := k_bind hok
        refine kCi (wc := (wJ6_bitCount_0f7a4 cy )) (wc2 := (wJ6_bitCount_0f7a4 cy )) (wr := [(aN, oX8 vN qN aH), (aH, oX4 vH qH), (qN 1, oX1 vD qD), (qD 0, rI cy 9 vD_now), (qH 8, rI cy 4 vH_sorts), (qH 9, rI cy 4 vH_places)]) (ws2 := (wX8_ring cy aN qN aH qH qD aH vN vH vD vD_now vH_sorts vH_places)) (kRunS (As := [.int r38]) (rest := [.int r106, .ref aN]) ⟨hx, hb, hml, hown, ht0⟩ (kJ6_bitCount_0f7a4 l D cy _ r38 r110 hc110 _ rfl) (va_cwS 1 ht0 (gS wd550 wd89 wd90 wd91) rfl rfl rfl (by decide +kernel) ⟨Nat.le_of_ble_eq_true rfl, Nat.le_of_ble_eq_true rfl⟩) hK hN hP hD [] rfl (by decide) rfl hl.1 rfl (Nat.le_of_ble_eq_true rfl) dX8_ring_110 ⟨Nat.zero_le _, Nat.zero_le _⟩) hP hD hS hA [] [0, 1, 2, 3, 4, 5] rfl rfl (by decide) (by decide) [0, 1, 2, 3, 4, 5] (by decide) rfl rfl (fun H locs hP hD hS => ?_)
        refine lv_isub hx hb dX8_ring_113 ?_
        obtain ⟨⟨r114, vN_114⟩, hc114, hok⟩ := k_bind hok
        try dsimp only at hok
        refine kCi (wc := (wX8_answer cy aN qN aH aH vN)) (wc2 := (wX8_answer cy aN qN aH aH vN_114)) (wr := [(aH, oX4 vH qH), (qN 1, oX1 vD qD), (qD 0, rI cy 9 vD_now), (qH 8, rI cy 4 vH_sorts), (qH 9, rI cy 4 vH_places)]) (ws2 := (wX8_ring cy aN qN aH qH qD aH vN_114 vH vD vD_now vH_sorts vH_places)) (kRunV (As := [.int (r106 - r110)]) (rest := []) ⟨hx, hb, hml, hown, ht0⟩ (kX8_answer l D cy _ aN qN aH vN (r106 - r110) r114 vN_114 hc114 _ rfl) (cwV 1 ht0 (gV wd538 wd539 wd540 wd57 wd541) rfl rfl rfl (by decide +kernel) ⟨Nat.le_of_ble_eq_true rfl, Nat.le_of_ble_eq_true rfl⟩) hK hN hP hD [0] rfl (by decide) 0 7 rfl rfl rfl hl.1 rfl (Nat.le_of_ble_eq_true rfl) dX8_ring_114 ⟨Nat.zero_le _, Nat.zero_le _⟩) hP hD hS hA [0] [1, 2, 3, 4, 5] rfl rfl (by decide) (by decide) [5, 0, 1, 2, 3, 4] (by decide) rfl rfl (fun H locs hP hD hS => ?_)
        cases hok
        subst hQe; exact W.iret hx hb hr (fun t ht hW => ⟨⟨_, (), rfl, rfl, by rw [ht]; exact hP, va_K.moved hW.alike hK, hD⟩, hS.F ht⟩) hS.2.2 dX8_ring_117
      · have hok := k_neg c17 hok
        exact J20  H locs ls hP hD hS (lv_sub hl [0] rfl) hok
def wsX8_placeOfCell : List Cond := .code yX8_placeOfCell cX8_placeOfCell 1 (some .int) :: W0
abbrev wX8_placeOfCell (cy : Nat → ClassId)  : va_W := []
set_option maxHeartbeats 4000000 in
set_option maxRecDepth 100000 in
theorem kX8_placeOfCell (l : Launch) (D : va_G) (cy : Nat → ClassId) (sz : Nat) (x0 : Int32) (zr : Int32) (hok : fX8_placeOfCell x0 = some zr) (A : Nat → Prop) (hAe : va_A (wX8_placeOfCell cy ) sz = A) : Met l yX8_placeOfCell wsX8_placeOfCell ({ frames := 0, cells := 0, slots := 0, locals := 0 } : Room) (kPre D cy [.int x0] (wX8_placeOfCell cy ) sz) (kQi D cy zr A (wX8_placeOfCell cy )) 0 0 A := by
  refine Met.ofW (cc := cX8_placeOfCell) (maxL := 1) (ret := (some .int)) (by decide) rfl ?_
  intro p e s m args below meth c s₁ B hml hv
  obtain ⟨rfl, hsz, hP, hK, hD0, hN⟩ := hv
  have hx := B.exec
  have hb := B.bytes
  have hr := B.returns
  have ht0 : ∀ w ∈ W0, w.before _ s = true := fun w h => atoms_spec (ws := wsX8_placeOfCell) B.pre w (List.mem_cons_of_mem _ h)
  have hown : s.vm.findClass RX8 = some m.cls := findClass_of_methodNamed B.named
  have hlocks := B.notSynchronized
  subst hsz
  have hD : va_D A (wX8_placeOfCell cy ) := by rw [← hAe]; exact hD0.self
  have hA : ∀ q : Nat, s.heap.size ≤ q → A q := fun q h => by rw [← hAe]; exact Or.inr h
  have hS : va_S A s.heap s.heap [] := va_S.rf
  have hl := lv_entry ([.int x0]) (n := 1) (Nat.le_of_ble_eq_true rfl)
  rw [lg_entry_eq]
  generalize (lg_sl ([.int x0]) ++ List.replicate (1 - (lg_sl ([.int x0])).length) Slot.unset).toArray = ls at hl ⊢
  have hl : lv_has ls 1 [(0, .int x0)] := hl
  unfold fX8_placeOfCell at hok
  obtain ⟨H, hH⟩ : ∃ H, H = s.heap := ⟨_, rfl⟩
  obtain ⟨locs, hlc⟩ : ∃ x : List Loc, x = [] := ⟨_, rfl⟩
  have hP : va_P D vwCl (wX8_placeOfCell cy ) H := by rw [hH]; exact hP
  have hS : va_S A s.heap H locs := by rw [hH, hlc]; exact hS
  rw [show W p l e _ s m _ below meth c s.heap [] = W p l e _ s m _ below meth c H locs from by rw [hH, hlc]]
  refine lv_iload_n hx hb dX8_placeOfCell_0 rfl (lv_at hl 0 rfl) ?_
  refine lv_bipush (v := 9) hx hb dX8_placeOfCell_1 (by decide) ?_
  refine lv_irem hx hb dX8_placeOfCell_3 (by decide) ?_
  cases hok
  exact W.iret hx hb hr (fun t ht hW => ⟨⟨_, (), rfl, rfl, by rw [ht]; exact hP, va_K.moved hW.alike hK, hD⟩, hS.F ht⟩) hS.2.2 dX8_placeOfCell_4
def wsX8_thing : List Cond := .code yX8_thing cX8_thing 3 (some .int) :: W0
abbrev wX8_thing (cy : Nat → ClassId) (aN : Nat) (qN : Nat → Nat) (aH : Nat) (qH : Nat → Nat) (qD : Nat → Nat) (fvN_5 : Nat) (vN : Nat → Int32) (vH : Nat → Int32) (vH_kinds : Nat → Int32) (vD : Nat → Int32) (vD_now : Nat → Int32) (vH_sizes : Nat → Int32) : va_W := [(aN, oX8 vN qN fvN_5), (aH, oX4 vH qH), (qH 14, rI cy 7 vH_kinds), (qN 1, oX1 vD qD), (qD 0, rI cy 9 vD_now), (qH 15, rI cy 7 vH_sizes)]
set_option maxHeartbeats 4000000 in
set_option maxRecDepth 100000 in
theorem kX8_thing (l : Launch) (D : va_G) (cy : Nat → ClassId) (sz : Nat) (aN : Nat) (qN : Nat → Nat) (aH : Nat) (qH : Nat → Nat) (qD : Nat → Nat) (vN : Nat → Int32) (vH : Nat → Int32) (vH_kinds : Nat → Int32) (vD : Nat → Int32) (vD_now : Nat → Int32) (vH_sizes : Nat → Int32) (x1 : Int32) (x2 : Int32) (zr : Int32) (z_vN : Nat → Int32) (hok : fX8_thing vN vH vH_kinds vD vD_now vH_sizes x1 x2 = some (zr, z_vN)) (A : Nat → Prop) (hAe : va_A (wX8_thing cy aN qN aH qH qD aH vN vH vH_kinds vD vD_now vH_sizes) sz = A) : Met l yX8_thing wsX8_thing ({ frames := 1, cells := 0, slots := 0, locals := 21 } : Room) (kPre D cy [.ref aN, .int x1, .int x2] (wX8_thing cy aN qN aH qH qD aH vN vH vH_kinds vD vD_now vH_sizes) sz) (kQi D cy zr A (wX8_thing cy aN qN aH qH qD aH z_vN vH vH_kinds vD vD_now vH_sizes)) 0 0 A := by
  refine Met.ofW (cc := cX8_thing) (maxL := 3) (ret := (some .int)) (by decide) rfl ?_
  intro p e s m args below meth c s₁ B hml hv
  obtain ⟨rfl, hsz, hP, hK, hD0, hN⟩ := hv
  have hx := B.exec
  have hb := B.bytes
  have hr := B.returns
  have ht0 : ∀ w ∈ W0, w.before _ s = true := fun w h => atoms_spec (ws := wsX8_thing) B.pre w (List.mem_cons_of_mem _ h)
  have hown : s.vm.findClass RX8 = some m.cls := findClass_of_methodNamed B.named
  have hlocks := B.notSynchronized
  subst hsz
  have hD : va_D A (wX8_thing cy aN qN aH qH qD aH vN vH vH_kinds vD vD_now vH_sizes) := by rw [← hAe]; exact hD0.self
  have hA : ∀ q : Nat, s.heap.size ≤ q → A q := fun q h => by rw [← hAe]; exact Or.inr h
  have hS : va_S A s.heap s.heap [] := va_S.rf
  have hl := lv_entry ([.ref aN, .int x1, .int x2]) (n := 3) (Nat.le_of_ble_eq_true rfl)
  rw [lg_entry_eq]
  generalize (lg_sl ([.ref aN, .int x1, .int x2]) ++ List.replicate (3 - (lg_sl ([.ref aN, .int x1, .int x2])).length) Slot.unset).toArray = ls at hl ⊢
  have hl : lv_has ls 3 [(0, .ref aN), (1, .int x1), (2, .int x2)] := hl
  generalize hQe : MQ below (kQi D cy zr A (wX8_thing cy aN qN aH qH qD aH z_vN vH vH_kinds vD vD_now vH_sizes)) ([.ref aN, .int x1, .int x2] : List Value).toArray s 0 0 A = Q
  have J131 : ∀ (t0_131 : Int32), ∀ (H : Heap) (locs : List Loc) (ls : Array Slot), va_P D vwCl (wX8_thing cy aN qN aH qH qD aH vN vH vH_kinds vD vD_now vH_sizes) H → va_D A (wX8_thing cy aN qN aH qH qD aH vN vH vH_kinds vD vD_now vH_sizes) → va_S A s.heap H locs → lv_has ls 3 [] → fX8_thing_J131 vN t0_131 = some (zr, z_vN) → W p l e ({ frames := 1, cells := 0, slots := 0, locals := 21 } : Room) s m ([.ref aN, .int x1, .int x2] : List Value).toArray below meth c H locs 0 0 Q (F0 m 131 ls [.int t0_131, .ref aN]) := by
    intro t0_131 H locs ls hP hD hS hl hok
    unfold fX8_thing_J131 at hok
    obtain ⟨⟨r131, vN_131c⟩, hc131, hok⟩ := k_bind hok
    try dsimp only at hok
    refine kCi (wc := (wX8_answer cy aN qN aH aH vN)) (wc2 := (wX8_answer cy aN qN aH aH vN_131c)) (wr := [(aH, oX4 vH qH), (qH 14, rI cy 7 vH_kinds), (qN 1, oX1 vD qD), (qD 0, rI cy 9 vD_now), (qH 15, rI cy 7 vH_sizes)]) (ws2 := (wX8_thing cy aN qN aH qH qD aH vN_131c vH vH_kinds vD vD_now vH_sizes)) (kRunV (As := [.int t0_131]) (rest := []) ⟨hx, hb, hml, hown, ht0⟩ (kX8_answer l D cy _ aN qN aH vN t0_131 r131 vN_131c hc131 _ rfl) (cwV 1 ht0 (gV wd538 wd539 wd540 wd57 wd541) rfl rfl rfl (by decide +kernel) ⟨Nat.le_of_ble_eq_true rfl, Nat.le_of_ble_eq_true rfl⟩) hK hN hP hD [0] rfl (by decide) 0 7 rfl rfl rfl hl.1 rfl (Nat.le_of_ble_eq_true rfl) dX8_thing_131 ⟨Nat.zero_le _, Nat.zero_le _⟩) hP hD hS hA [0] [1, 2, 3, 4, 5] rfl rfl (by decide) (by decide) [5, 0, 1, 2, 3, 4] (by decide) rfl rfl (fun H locs hP hD hS => ?_)
    cases hok
    subst hQe; exact W.iret hx hb hr (fun t ht hW => ⟨⟨_, (), rfl, rfl, by rw [ht]; exact hP, va_K.moved hW.alike hK, hD⟩, hS.F ht⟩) hS.2.2 dX8_thing_134
  have J20 : ∀ (H : Heap) (locs : List Loc) (ls : Array Slot), va_P D vwCl (wX8_thing cy aN qN aH qH qD aH vN vH vH_kinds vD vD_now vH_sizes) H → va_D A (wX8_thing cy aN qN aH qH qD aH vN vH vH_kinds vD vD_now vH_sizes) → va_S A s.heap H locs → lv_has ls 3 [(0, .ref aN)] → fX8_thing_J20 vN = some (zr, z_vN) → W p l e ({ frames := 1, cells := 0, slots := 0, locals := 21 } : Room) s m ([.ref aN, .int x1, .int x2] : List Value).toArray below meth c H locs 0 0 Q (F0 m 20 ls []) := by
    intro  H locs ls hP hD hS hl hok
    unfold fX8_thing_J20 at hok
    refine lv_aload_n hx hb dX8_thing_20 rfl (lv_at hl 0 rfl) ?_
    refine lv_iconst (v := 1) hx hb dX8_thing_21 (by decide) ?_
    obtain ⟨⟨r22, vN_22⟩, hc22, hok⟩ := k_bind hok
    try dsimp only at hok
    refine kCi (wc := (wX8_refuse cy aN qN aH aH vN)) (wc2 := (wX8_refuse cy aN qN aH aH vN_22)) (wr := [(aH, oX4 vH qH), (qH 14, rI cy 7 vH_kinds), (qN 1, oX1 vD qD), (qD 0, rI cy 9 vD_now), (qH 15, rI cy 7 vH_sizes)]) (ws2 := (wX8_thing cy aN qN aH qH qD aH vN_22 vH vH_kinds vD vD_now vH_sizes)) (kRunV (As := [.int 1]) (rest := []) ⟨hx, hb, hml, hown, ht0⟩ (kX8_refuse l D cy _ aN qN aH vN (1 : Int32) r22 vN_22 hc22 _ rfl) (cwV 1 ht0 (gV wd504 wd505 wd506 wd57 wd507) rfl rfl rfl (by decide +kernel) ⟨Nat.le_of_ble_eq_true rfl, Nat.le_of_ble_eq_true rfl⟩) hK hN hP hD [0] rfl (by decide) 0 7 rfl rfl rfl hl.1 rfl (Nat.le_of_ble_eq_true rfl) dX8_thing_22 ⟨Nat.zero_le _, Nat.zero_le _⟩) hP hD hS hA [0] [1, 2, 3, 4, 5] rfl rfl (by decide) (by decide) [5, 0, 1, 2, 3, 4] (by decide) rfl rfl (fun H locs hP hD hS => ?_)
    cases hok
    subst hQe; exact W.iret hx hb hr (fun t ht hW => ⟨⟨_, (), rfl, rfl, by rw [ht]; exact hP, va_K.moved hW.alike hK, hD⟩, hS.F ht⟩) hS.2.2 dX8_thing_25
  unfold fX8_thing at hok
  obtain ⟨H, hH⟩ : ∃ H, H = s.heap := ⟨_, rfl⟩
  obtain ⟨locs, hlc⟩ : ∃ x : List Loc, x = [] := ⟨_, rfl⟩
  have hP : va_P D vwCl (wX8_thing cy aN qN aH qH qD aH vN vH vH_kinds vD vD_now vH_sizes) H := by rw [hH]; exact hP
  have hS : va_S A s.heap H locs := by rw [hH, hlc]; exact hS
  rw [show W p l e _ s m _ below meth c s.heap [] = W p l e _ s m _ below meth c H locs from by rw [hH, hlc]]
  refine lv_aload_n hx hb dX8_thing_0 rfl (lv_at hl 0 rfl) ?_
  refine va_get (D := D) (ci := 7) (v := .ref aH) (C := RX8) (T := TX8) (N := 9) hx hb ht0 niX8 hown hK hP 0 rfl rfl 5 (by decide) (ht0 _ wd522) (fun _ h9 => h9) rfl dX8_thing_1 ?_
  refine lv_iload_n hx hb dX8_thing_4 rfl (lv_at hl 1 rfl) ?_
  obtain ⟨r5, hc5, hok⟩ := k_bind hok
  refine kCi (wc := (wX4_hasThing cy aH qH vH)) (wc2 := (wX4_hasThing cy aH qH vH)) (wr := [(aN, oX8 vN qN aH), (qH 14, rI cy 7 vH_kinds), (qN 1, oX1 vD qD), (qD 0, rI cy 9 vD_now), (qH 15, rI cy 7 vH_sizes)]) (ws2 := (wX8_thing cy aN qN aH qH qD aH vN vH vH_kinds vD vD_now vH_sizes)) (kRunV (As := [.int x1]) (rest := []) ⟨hx, hb, hml, hown, ht0⟩ (kX4_hasThing l D cy _ aH qH vH x1 r5 hc5 _ rfl) (cwV 1 ht0 (gV wd551 wd552 wd553 wd9 wd554) rfl rfl rfl (by decide +kernel) ⟨Nat.le_of_ble_eq_true rfl, Nat.le_of_ble_eq_true rfl⟩) hK hN hP hD [1] rfl (by decide) 1 3 rfl rfl rfl hl.1 rfl (Nat.le_of_ble_eq_true rfl) dX8_thing_5 ⟨Nat.zero_le _, Nat.zero_le _⟩) hP hD hS hA [1] [0, 2, 3, 4, 5] rfl rfl (by decide) (by decide) [0, 5, 1, 2, 3, 4] (by decide) rfl rfl (fun H locs hP hD hS => ?_)
  refine lv_if_eq (tgt := 20) hx hb dX8_thing_8 (by decide) (fun c8 => ?_) (fun c8 => ?_)
  · have hok := k_pos c8 hok
    exact J20  H locs ls hP hD hS (lv_sub hl [0] rfl) hok
  · have hok := k_neg c8 hok
    refine lv_iload_n hx hb dX8_thing_11 rfl (lv_at hl 2 rfl) ?_
    refine lv_if_lt (tgt := 20) hx hb dX8_thing_12 (by decide) (fun c12 => ?_) (fun c12 => ?_)
    · have hok := k_pos c12 hok
      exact J20  H locs ls hP hD hS (lv_sub hl [0] rfl) hok
    · have hok := k_neg c12 hok
      refine lv_iload_n hx hb dX8_thing_15 rfl (lv_at hl 2 rfl) ?_
      refine lv_iconst (v := 4) hx hb dX8_thing_16 (by decide) ?_
      refine lv_icmp_le (tgt := 26) hx hb dX8_thing_17 (by decide) (fun c17 => ?_) (fun c17 => ?_)
      · have hok := k_pos c17 hok
        refine lv_iload_n hx hb dX8_thing_26 rfl (lv_at hl 2 rfl) ?_
        by_cases c27_0 : x2 = 0
        · have hok := k_pos c27_0 hok
          refine lv_tableIn (tgt := 56) (off := 29) hx hb dX8_thing_27 (by rw [c27_0]; decide) (by rw [c27_0]; decide) (by rw [c27_0]; decide) (by decide) ?_
          refine lv_aload_n hx hb dX8_thing_56 rfl (lv_at hl 0 rfl) ?_
          refine lv_aload_n hx hb dX8_thing_57 rfl (lv_at hl 0 rfl) ?_
          refine va_get (D := D) (ci := 7) (v := .ref aH) (C := RX8) (T := TX8) (N := 9) hx hb ht0 niX8 hown hK hP 0 rfl rfl 5 (by decide) (ht0 _ wd522) (fun _ h9 => h9) rfl dX8_thing_58 ?_
          refine lv_iload_n hx hb dX8_thing_61 rfl (lv_at hl 1 rfl) ?_
          obtain ⟨r62, hc62, hok⟩ := k_bind hok
          refine kCi (wc := (wX4_kindOf cy aH qH vH vH_kinds)) (wc2 := (wX4_kindOf cy aH qH vH vH_kinds)) (wr := [(aN, oX8 vN qN aH), (qN 1, oX1 vD qD), (qD 0, rI cy 9 vD_now), (qH 15, rI cy 7 vH_sizes)]) (ws2 := (wX8_thing cy aN qN aH qH qD aH vN vH vH_kinds vD vD_now vH_sizes)) (kRunV (As := [.int x1]) (rest := [.ref aN]) ⟨hx, hb, hml, hown, ht0⟩ (kX4_kindOf l D cy _ aH qH vH vH_kinds x1 r62 hc62 _ rfl) (cwV 1 ht0 (gV wd555 wd77 wd78 wd9 wd79) rfl rfl rfl (by decide +kernel) ⟨Nat.le_of_ble_eq_true rfl, Nat.le_of_ble_eq_true rfl⟩) hK hN hP hD [1, 2] rfl (by decide) 1 3 rfl rfl rfl hl.1 rfl (Nat.le_of_ble_eq_true rfl) dX8_thing_62 ⟨Nat.zero_le _, Nat.zero_le _⟩) hP hD hS hA [1, 2] [0, 3, 4, 5] rfl rfl (by decide) (by decide) [0, 4, 5, 1, 2, 3] (by decide) rfl rfl (fun H locs hP hD hS => ?_)
          obtain ⟨⟨r65, vN_65⟩, hc65, hok⟩ := k_bind hok
          try dsimp only at hok
          refine kCi (wc := (wX8_answer cy aN qN aH aH vN)) (wc2 := (wX8_answer cy aN qN aH aH vN_65)) (wr := [(aH, oX4 vH qH), (qH 14, rI cy 7 vH_kinds), (qN 1, oX1 vD qD), (qD 0, rI cy 9 vD_now), (qH 15, rI cy 7 vH_sizes)]) (ws2 := (wX8_thing cy aN qN aH qH qD aH vN_65 vH vH_kinds vD vD_now vH_sizes)) (kRunV (As := [.int r62]) (rest := []) ⟨hx, hb, hml, hown, ht0⟩ (kX8_answer l D cy _ aN qN aH vN r62 r65 vN_65 hc65 _ rfl) (cwV 1 ht0 (gV wd538 wd539 wd540 wd57 wd541) rfl rfl rfl (by decide +kernel) ⟨Nat.le_of_ble_eq_true rfl, Nat.le_of_ble_eq_true rfl⟩) hK hN hP hD [0] rfl (by decide) 0 7 rfl rfl rfl hl.1 rfl (Nat.le_of_ble_eq_true rfl) dX8_thing_65 ⟨Nat.zero_le _, Nat.zero_le _⟩) hP hD hS hA [0] [1, 2, 3, 4, 5] rfl rfl (by decide) (by decide) [5, 0, 1, 2, 3, 4] (by decide) rfl rfl (fun H locs hP hD hS => ?_)
          cases hok
          subst hQe; exact W.iret hx hb hr (fun t ht hW => ⟨⟨_, (), rfl, rfl, by rw [ht]; exact hP, va_K.moved hW.alike hK, hD⟩, hS.F ht⟩) hS.2.2 dX8_thing_68
        have hok := k_neg c27_0 hok
        by_cases c27_1 : x2 = 1
        · have hok := k_pos c27_1 hok
          refine lv_tableIn (tgt := 69) (off := 42) hx hb dX8_thing_27 (by rw [c27_1]; decide) (by rw [c27_1]; decide) (by rw [c27_1]; decide) (by decide) ?_
          refine lv_aload_n hx hb dX8_thing_69 rfl (lv_at hl 0 rfl) ?_
          refine lv_aload_n hx hb dX8_thing_70 rfl (lv_at hl 0 rfl) ?_
          refine va_get (D := D) (ci := 7) (v := .ref (qN 1)) (C := RX8) (T := TX8) (N := 9) hx hb ht0 niX8 hown hK hP 0 rfl rfl 1 (by decide) (ht0 _ wd527) (fun _ h9 => h9) rfl dX8_thing_71 ?_
          refine lv_iload_n hx hb dX8_thing_74 rfl (lv_at hl 1 rfl) ?_
          obtain ⟨r75, hc75, hok⟩ := k_bind hok
          refine kCi (wc := (wX1_cellOf cy (qN 1) qD vD vD_now)) (wc2 := (wX1_cellOf cy (qN 1) qD vD vD_now)) (wr := [(aN, oX8 vN qN aH), (aH, oX4 vH qH), (qH 14, rI cy 7 vH_kinds), (qH 15, rI cy 7 vH_sizes)]) (ws2 := (wX8_thing cy aN qN aH qH qD aH vN vH vH_kinds vD vD_now vH_sizes)) (kRunV (As := [.int x1]) (rest := [.ref aN]) ⟨hx, hb, hml, hown, ht0⟩ (kX1_cellOf l D cy _ (qN 1) qD vD vD_now x1 r75 hc75 _ rfl) (cwV 1 ht0 (gV wd556 wd82 wd83 wd74 wd84) rfl rfl rfl (by decide +kernel) ⟨Nat.le_of_ble_eq_true rfl, Nat.le_of_ble_eq_true rfl⟩) hK hN hP hD [3, 4] rfl (by decide) 3 1 rfl rfl rfl hl.1 rfl (Nat.le_of_ble_eq_true rfl) dX8_thing_75 ⟨Nat.zero_le _, Nat.zero_le _⟩) hP hD hS hA [3, 4] [0, 1, 2, 5] rfl rfl (by decide) (by decide) [0, 1, 2, 4, 5, 3] (by decide) rfl rfl (fun H locs hP hD hS => ?_)
          obtain ⟨r78, hc78, hok⟩ := k_bind hok
          refine kCi (wc := (wX8_ringOfCell cy )) (wc2 := (wX8_ringOfCell cy )) (wr := [(aN, oX8 vN qN aH), (aH, oX4 vH qH), (qH 14, rI cy 7 vH_kinds), (qN 1, oX1 vD qD), (qD 0, rI cy 9 vD_now), (qH 15, rI cy 7 vH_sizes)]) (ws2 := (wX8_thing cy aN qN aH qH qD aH vN vH vH_kinds vD vD_now vH_sizes)) (kRunS (As := [.int r75]) (rest := [.ref aN]) ⟨hx, hb, hml, hown, ht0⟩ (kX8_ringOfCell l D cy _ r75 r78 hc78 _ rfl) (va_cwS 1 ht0 (gS wd557 wd58 wd57 wd56) rfl rfl rfl (by decide +kernel) ⟨Nat.le_of_ble_eq_true rfl, Nat.le_of_ble_eq_true rfl⟩) hK hN hP hD [] rfl (by decide) rfl hl.1 rfl (Nat.le_of_ble_eq_true rfl) dX8_thing_78 ⟨Nat.zero_le _, Nat.zero_le _⟩) hP hD hS hA [] [0, 1, 2, 3, 4, 5] rfl rfl (by decide) (by decide) [0, 1, 2, 3, 4, 5] (by decide) rfl rfl (fun H locs hP hD hS => ?_)
          obtain ⟨⟨r81, vN_81⟩, hc81, hok⟩ := k_bind hok
          try dsimp only at hok
          refine kCi (wc := (wX8_answer cy aN qN aH aH vN)) (wc2 := (wX8_answer cy aN qN aH aH vN_81)) (wr := [(aH, oX4 vH qH), (qH 14, rI cy 7 vH_kinds), (qN 1, oX1 vD qD), (qD 0, rI cy 9 vD_now), (qH 15, rI cy 7 vH_sizes)]) (ws2 := (wX8_thing cy aN qN aH qH qD aH vN_81 vH vH_kinds vD vD_now vH_sizes)) (kRunV (As := [.int r78]) (rest := []) ⟨hx, hb, hml, hown, ht0⟩ (kX8_answer l D cy _ aN qN aH vN r78 r81 vN_81 hc81 _ rfl) (cwV 1 ht0 (gV wd538 wd539 wd540 wd57 wd541) rfl rfl rfl (by decide +kernel) ⟨Nat.le_of_ble_eq_true rfl, Nat.le_of_ble_eq_true rfl⟩) hK hN hP hD [0] rfl (by decide) 0 7 rfl rfl rfl hl.1 rfl (Nat.le_of_ble_eq_true rfl) dX8_thing_81 ⟨Nat.zero_le _, Nat.zero_le _⟩) hP hD hS hA [0] [1, 2, 3, 4, 5] rfl rfl (by decide) (by decide) [5, 0, 1, 2, 3, 4] (by decide) rfl rfl (fun H locs hP hD hS => ?_)
          cases hok
          subst hQe; exact W.iret hx hb hr (fun t ht hW => ⟨⟨_, (), rfl, rfl, by rw [ht]; exact hP, va_K.moved hW.alike hK, hD⟩, hS.F ht⟩) hS.2.2 dX8_thing_84
        have hok := k_neg c27_1 hok
        by_cases c27_2 : x2 = 2
        · have hok := k_pos c27_2 hok
          refine lv_tableIn (tgt := 85) (off := 58) hx hb dX8_thing_27 (by rw [c27_2]; decide) (by rw [c27_2]; decide) (by rw [c27_2]; decide) (by decide) ?_
          refine lv_aload_n hx hb dX8_thing_85 rfl (lv_at hl 0 rfl) ?_
          refine lv_aload_n hx hb dX8_thing_86 rfl (lv_at hl 0 rfl) ?_
          refine va_get (D := D) (ci := 7) (v := .ref (qN 1)) (C := RX8) (T := TX8) (N := 9) hx hb ht0 niX8 hown hK hP 0 rfl rfl 1 (by decide) (ht0 _ wd527) (fun _ h9 => h9) rfl dX8_thing_87 ?_
          refine lv_iload_n hx hb dX8_thing_90 rfl (lv_at hl 1 rfl) ?_
          obtain ⟨r91, hc91, hok⟩ := k_bind hok
          refine kCi (wc := (wX1_cellOf cy (qN 1) qD vD vD_now)) (wc2 := (wX1_cellOf cy (qN 1) qD vD vD_now)) (wr := [(aN, oX8 vN qN aH), (aH, oX4 vH qH), (qH 14, rI cy 7 vH_kinds), (qH 15, rI cy 7 vH_sizes)]) (ws2 := (wX8_thing cy aN qN aH qH qD aH vN vH vH_kinds vD vD_now vH_sizes)) (kRunV (As := [.int x1]) (rest := [.ref aN]) ⟨hx, hb, hml, hown, ht0⟩ (kX1_cellOf l D cy _ (qN 1) qD vD vD_now x1 r91 hc91 _ rfl) (cwV 1 ht0 (gV wd556 wd82 wd83 wd74 wd84) rfl rfl rfl (by decide +kernel) ⟨Nat.le_of_ble_eq_true rfl, Nat.le_of_ble_eq_true rfl⟩) hK hN hP hD [3, 4] rfl (by decide) 3 1 rfl rfl rfl hl.1 rfl (Nat.le_of_ble_eq_true rfl) dX8_thing_91 ⟨Nat.zero_le _, Nat.zero_le _⟩) hP hD hS hA [3, 4] [0, 1, 2, 5] rfl rfl (by decide) (by decide) [0, 1, 2, 4, 5, 3] (by decide) rfl rfl (fun H locs hP hD hS => ?_)
          obtain ⟨r94, hc94, hok⟩ := k_bind hok
          refine kCi (wc := (wX8_placeOfCell cy )) (wc2 := (wX8_placeOfCell cy )) (wr := [(aN, oX8 vN qN aH), (aH, oX4 vH qH), (qH 14, rI cy 7 vH_kinds), (qN 1, oX1 vD qD), (qD 0, rI cy 9 vD_now), (qH 15, rI cy 7 vH_sizes)]) (ws2 := (wX8_thing cy aN qN aH qH qD aH vN vH vH_kinds vD vD_now vH_sizes)) (kRunS (As := [.int r91]) (rest := [.ref aN]) ⟨hx, hb, hml, hown, ht0⟩ (kX8_placeOfCell l D cy _ r91 r94 hc94 _ rfl) (va_cwS 1 ht0 (gS wd558 wd559 wd57 wd560) rfl rfl rfl (by decide +kernel) ⟨Nat.le_of_ble_eq_true rfl, Nat.le_of_ble_eq_true rfl⟩) hK hN hP hD [] rfl (by decide) rfl hl.1 rfl (Nat.le_of_ble_eq_true rfl) dX8_thing_94 ⟨Nat.zero_le _, Nat.zero_le _⟩) hP hD hS hA [] [0, 1, 2, 3, 4, 5] rfl rfl (by decide) (by decide) [0, 1, 2, 3, 4, 5] (by decide) rfl rfl (fun H locs hP hD hS => ?_)
          obtain ⟨⟨r97, vN_97⟩, hc97, hok⟩ := k_bind hok
          try dsimp only at hok
          refine kCi (wc := (wX8_answer cy aN qN aH aH vN)) (wc2 := (wX8_answer cy aN qN aH aH vN_97)) (wr := [(aH, oX4 vH qH), (qH 14, rI cy 7 vH_kinds), (qN 1, oX1 vD qD), (qD 0, rI cy 9 vD_now), (qH 15, rI cy 7 vH_sizes)]) (ws2 := (wX8_thing cy aN qN aH qH qD aH vN_97 vH vH_kinds vD vD_now vH_sizes)) (kRunV (As := [.int r94]) (rest := []) ⟨hx, hb, hml, hown, ht0⟩ (kX8_answer l D cy _ aN qN aH vN r94 r97 vN_97 hc97 _ rfl) (cwV 1 ht0 (gV wd538 wd539 wd540 wd57 wd541) rfl rfl rfl (by decide +kernel) ⟨Nat.le_of_ble_eq_true rfl, Nat.le_of_ble_eq_true rfl⟩) hK hN hP hD [0] rfl (by decide) 0 7 rfl rfl rfl hl.1 rfl (Nat.le_of_ble_eq_true rfl) dX8_thing_97 ⟨Nat.zero_le _, Nat.zero_le _⟩) hP hD hS hA [0] [1, 2, 3, 4, 5] rfl rfl (by decide) (by decide) [5, 0, 1, 2, 3, 4] (by decide) rfl rfl (fun H locs hP hD hS => ?_)
          cases hok
          subst hQe; exact W.iret hx hb hr (fun t ht hW => ⟨⟨_, (), rfl, rfl, by rw [ht]; exact hP, va_K.moved hW.alike hK, hD⟩, hS.F ht⟩) hS.2.2 dX8_thing_100
        have hok := k_neg c27_2 hok
        by_cases c27_3 : x2 = 3
        · have hok := k_pos c27_3 hok
          refine lv_tableIn (tgt := 101) (off := 74) hx hb dX8_thing_27 (by rw [c27_3]; decide) (by rw [c27_3]; decide) (by rw [c27_3]; decide) (by decide) ?_
          refine lv_aload_n hx hb dX8_thing_101 rfl (lv_at hl 0 rfl) ?_
          refine lv_aload_n hx hb dX8_thing_102 rfl (lv_at hl 0 rfl) ?_
          refine va_get (D := D) (ci := 7) (v := .ref aH) (C := RX8) (T := TX8) (N := 9) hx hb ht0 niX8 hown hK hP 0 rfl rfl 5 (by decide) (ht0 _ wd522) (fun _ h9 => h9) rfl dX8_thing_103 ?_
          refine lv_iload_n hx hb dX8_thing_106 rfl (lv_at hl 1 rfl) ?_
          obtain ⟨r107, hc107, hok⟩ := k_bind hok
          refine kCi (wc := (wX4_sizeOf cy aH qH vH vH_sizes)) (wc2 := (wX4_sizeOf cy aH qH vH vH_sizes)) (wr := [(aN, oX8 vN qN aH), (qH 14, rI cy 7 vH_kinds), (qN 1, oX1 vD qD), (qD 0, rI cy 9 vD_now)]) (ws2 := (wX8_thing cy aN qN aH qH qD aH vN vH vH_kinds vD vD_now vH_sizes)) (kRunV (As := [.int x1]) (rest := [.ref aN]) ⟨hx, hb, hml, hown, ht0⟩ (kX4_sizeOf l D cy _ aH qH vH vH_sizes x1 r107 hc107 _ rfl) (cwV 1 ht0 (gV wd561 wd562 wd563 wd9 wd564) rfl rfl rfl (by decide +kernel) ⟨Nat.le_of_ble_eq_true rfl, Nat.le_of_ble_eq_true rfl⟩) hK hN hP hD [1, 5] rfl (by decide) 1 3 rfl rfl rfl hl.1 rfl (Nat.le_of_ble_eq_true rfl) dX8_thing_107 ⟨Nat.zero_le _, Nat.zero_le _⟩) hP hD hS hA [1, 5] [0, 2, 3, 4] rfl rfl (by decide) (by decide) [0, 4, 1, 2, 3, 5] (by decide) rfl rfl (fun H locs hP hD hS => ?_)
          obtain ⟨⟨r110, vN_110⟩, hc110, hok⟩ := k_bind hok
          try dsimp only at hok
          refine kCi (wc := (wX8_answer cy aN qN aH aH vN)) (wc2 := (wX8_answer cy aN qN aH aH vN_110)) (wr := [(aH, oX4 vH qH), (qH 14, rI cy 7 vH_kinds), (qN 1, oX1 vD qD), (qD 0, rI cy 9 vD_now), (qH 15, rI cy 7 vH_sizes)]) (ws2 := (wX8_thing cy aN qN aH qH qD aH vN_110 vH vH_kinds vD vD_now vH_sizes)) (kRunV (As := [.int r107]) (rest := []) ⟨hx, hb, hml, hown, ht0⟩ (kX8_answer l D cy _ aN qN aH vN r107 r110 vN_110 hc110 _ rfl) (cwV 1 ht0 (gV wd538 wd539 wd540 wd57 wd541) rfl rfl rfl (by decide +kernel) ⟨Nat.le_of_ble_eq_true rfl, Nat.le_of_ble_eq_true rfl⟩) hK hN hP hD [0] rfl (by decide) 0 7 rfl rfl rfl hl.1 rfl (Nat.le_of_ble_eq_true rfl) dX8_thing_110 ⟨Nat.zero_le _, Nat.zero_le _⟩) hP hD hS hA [0] [1, 2, 3, 4, 5] rfl rfl (by decide) (by decide) [5, 0, 1, 2, 3, 4] (by decide) rfl rfl (fun H locs hP hD hS => ?_)
          cases hok
          subst hQe; exact W.iret hx hb hr (fun t ht hW => ⟨⟨_, (), rfl, rfl, by rw [ht]; exact hP, va_K.moved hW.alike hK, hD⟩, hS.F ht⟩) hS.2.2 dX8_thing_113
        have hok := k_neg c27_3 hok
        refine lv_tableOut (tgt := 114) hx hb dX8_thing_27 (by have q0 := lv_neT c27_0 (a := 0) (by decide); have q1 := lv_neT c27_1 (a := 1) (by decide); have q2 := lv_neT c27_2 (a := 2) (by decide); have q3 := lv_neT c27_3 (a := 3) (by decide); omega) (by decide) ?_
        refine lv_aload_n hx hb dX8_thing_114 rfl (lv_at hl 0 rfl) ?_
        refine lv_aload_n hx hb dX8_thing_115 rfl (lv_at hl 0 rfl) ?_
        refine va_get (D := D) (ci := 7) (v := .ref (qN 1)) (C := RX8) (T := TX8) (N := 9) hx hb ht0 niX8 hown hK hP 0 rfl rfl 1 (by decide) (ht0 _ wd527) (fun _ h9 => h9) rfl dX8_thing_116 ?_
        refine lv_iload_n hx hb dX8_thing_119 rfl (lv_at hl 1 rfl) ?_
        obtain ⟨r120, hc120, hok⟩ := k_bind hok
        refine kCi (wc := (wX1_isHeld cy (qN 1) qD vD vD_now)) (wc2 := (wX1_isHeld cy (qN 1) qD vD vD_now)) (wr := [(aN, oX8 vN qN aH), (aH, oX4 vH qH), (qH 14, rI cy 7 vH_kinds), (qH 15, rI cy 7 vH_sizes)]) (ws2 := (wX8_thing cy aN qN aH qH qD aH vN vH vH_kinds vD vD_now vH_sizes)) (kRunV (As := [.int x1]) (rest := [.ref aN]) ⟨hx, hb, hml, hown, ht0⟩ (kX1_isHeld l D cy _ (qN 1) qD vD vD_now x1 r120 hc120 _ rfl) (cwV 1 ht0 (gV wd565 wd72 wd73 wd74 wd75) rfl rfl rfl (by decide +kernel) ⟨Nat.le_of_ble_eq_true rfl, Nat.le_of_ble_eq_true rfl⟩) hK hN hP hD [3, 4] rfl (by decide) 3 1 rfl rfl rfl hl.1 rfl (Nat.le_of_ble_eq_true rfl) dX8_thing_120 ⟨Nat.zero_le _, Nat.zero_le _⟩) hP hD hS hA [3, 4] [0, 1, 2, 5] rfl rfl (by decide) (by decide) [0, 1, 2, 4, 5, 3] (by decide) rfl rfl (fun H locs hP hD hS => ?_)
        refine lv_if_eq (tgt := 130) hx hb dX8_thing_123 (by decide) (fun c123 => ?_) (fun c123 => ?_)
        · have hok := k_pos c123 hok
          refine lv_iconst (v := 0) hx hb dX8_thing_130 (by decide) ?_
          exact J131 (0 : Int32) H locs ls hP hD hS (lv_sub hl [] rfl) hok
        · have hok := k_neg c123 hok
          refine lv_iconst (v := 1) hx hb dX8_thing_126 (by decide) ?_
          refine lv_goto (tgt := 131) hx hb dX8_thing_127 (by decide) ?_
          exact J131 (1 : Int32) H locs ls hP hD hS (lv_sub hl [] rfl) hok
      · have hok := k_neg c17 hok
        exact J20  H locs ls hP hD hS (lv_sub hl [0] rfl) hok
def wsX8_at : List Cond := .code yX8_at cX8_at 4 (some .int) :: W0
abbrev wX8_at (cy : Nat → ClassId) (aN : Nat) (qN : Nat → Nat) (aH : Nat) (qH : Nat → Nat) (qD : Nat → Nat) (fvN_5 : Nat) (vN : Nat → Int32) (vH : Nat → Int32) (vH_places : Nat → Int32) (vD : Nat → Int32) (vD_now : Nat → Int32) : va_W := [(aN, oX8 vN qN fvN_5), (aH, oX4 vH qH), (qH 9, rI cy 4 vH_places), (qN 1, oX1 vD qD), (qD 0, rI cy 9 vD_now)]
set_option maxHeartbeats 4000000 in
set_option maxRecDepth 100000 in
theorem kX8_at (l : Launch) (D : va_G) (cy : Nat → ClassId) (sz : Nat) (aN : Nat) (qN : Nat → Nat) (aH : Nat) (qH : Nat → Nat) (qD : Nat → Nat) (vN : Nat → Int32) (vH : Nat → Int32) (vH_places : Nat → Int32) (vD : Nat → Int32) (vD_now : Nat → Int32) (x1 : Int32) (x2 : Int32) (zr : Int32) (z_vN : Nat → Int32) (hok : fX8_at vN vH vH_places vD vD_now x1 x2 = some (zr, z_vN)) (A : Nat → Prop) (hAe : va_A (wX8_at cy aN qN aH qH qD aH vN vH vH_places vD vD_now) sz = A) : Met l yX8_at wsX8_at ({ frames := 2, cells := 0, slots := 0, locals := 43 } : Room) (kPre D cy [.ref aN, .int x1, .int x2] (wX8_at cy aN qN aH qH qD aH vN vH vH_places vD vD_now) sz) (kQi D cy zr A (wX8_at cy aN qN aH qH qD aH z_vN vH vH_places vD vD_now)) 0 0 A := by
  refine Met.ofW (cc := cX8_at) (maxL := 4) (ret := (some .int)) (by decide) rfl ?_
  intro p e s m args below meth c s₁ B hml hv
  obtain ⟨rfl, hsz, hP, hK, hD0, hN⟩ := hv
  have hx := B.exec
  have hb := B.bytes
  have hr := B.returns
  have ht0 : ∀ w ∈ W0, w.before _ s = true := fun w h => atoms_spec (ws := wsX8_at) B.pre w (List.mem_cons_of_mem _ h)
  have hown : s.vm.findClass RX8 = some m.cls := findClass_of_methodNamed B.named
  have hlocks := B.notSynchronized
  subst hsz
  have hD : va_D A (wX8_at cy aN qN aH qH qD aH vN vH vH_places vD vD_now) := by rw [← hAe]; exact hD0.self
  have hA : ∀ q : Nat, s.heap.size ≤ q → A q := fun q h => by rw [← hAe]; exact Or.inr h
  have hS : va_S A s.heap s.heap [] := va_S.rf
  have hl := lv_entry ([.ref aN, .int x1, .int x2]) (n := 4) (Nat.le_of_ble_eq_true rfl)
  rw [lg_entry_eq]
  generalize (lg_sl ([.ref aN, .int x1, .int x2]) ++ List.replicate (4 - (lg_sl ([.ref aN, .int x1, .int x2])).length) Slot.unset).toArray = ls at hl ⊢
  have hl : lv_has ls 4 [(0, .ref aN), (1, .int x1), (2, .int x2)] := hl
  generalize hQe : MQ below (kQi D cy zr A (wX8_at cy aN qN aH qH qD aH z_vN vH vH_places vD vD_now)) ([.ref aN, .int x1, .int x2] : List Value).toArray s 0 0 A = Q
  have J49 : ∀ (t0_49 : Int32), ∀ (H : Heap) (locs : List Loc) (ls : Array Slot), va_P D vwCl (wX8_at cy aN qN aH qH qD aH vN vH vH_places vD vD_now) H → va_D A (wX8_at cy aN qN aH qH qD aH vN vH vH_places vD vD_now) → va_S A s.heap H locs → lv_has ls 4 [] → fX8_at_J49 vN t0_49 = some (zr, z_vN) → W p l e ({ frames := 2, cells := 0, slots := 0, locals := 43 } : Room) s m ([.ref aN, .int x1, .int x2] : List Value).toArray below meth c H locs 0 0 Q (F0 m 49 ls [.int t0_49, .ref aN]) := by
    intro t0_49 H locs ls hP hD hS hl hok
    unfold fX8_at_J49 at hok
    obtain ⟨⟨r49, vN_49c⟩, hc49, hok⟩ := k_bind hok
    try dsimp only at hok
    refine kCi (wc := (wX8_answer cy aN qN aH aH vN)) (wc2 := (wX8_answer cy aN qN aH aH vN_49c)) (wr := [(aH, oX4 vH qH), (qH 9, rI cy 4 vH_places), (qN 1, oX1 vD qD), (qD 0, rI cy 9 vD_now)]) (ws2 := (wX8_at cy aN qN aH qH qD aH vN_49c vH vH_places vD vD_now)) (kRunV (As := [.int t0_49]) (rest := []) ⟨hx, hb, hml, hown, ht0⟩ (kX8_answer l D cy _ aN qN aH vN t0_49 r49 vN_49c hc49 _ rfl) (cwV 1 ht0 (gV wd538 wd539 wd540 wd57 wd541) rfl rfl rfl (by decide +kernel) ⟨Nat.le_of_ble_eq_true rfl, Nat.le_of_ble_eq_true rfl⟩) hK hN hP hD [0] rfl (by decide) 0 7 rfl rfl rfl hl.1 rfl (Nat.le_of_ble_eq_true rfl) dX8_at_49 ⟨Nat.zero_le _, Nat.zero_le _⟩) hP hD hS hA [0] [1, 2, 3, 4] rfl rfl (by decide) (by decide) [4, 0, 1, 2, 3] (by decide) rfl rfl (fun H locs hP hD hS => ?_)
    cases hok
    subst hQe; exact W.iret hx hb hr (fun t ht hW => ⟨⟨_, (), rfl, rfl, by rw [ht]; exact hP, va_K.moved hW.alike hK, hD⟩, hS.F ht⟩) hS.2.2 dX8_at_52
  unfold fX8_at at hok
  obtain ⟨H, hH⟩ : ∃ H, H = s.heap := ⟨_, rfl⟩
  obtain ⟨locs, hlc⟩ : ∃ x : List Loc, x = [] := ⟨_, rfl⟩
  have hP : va_P D vwCl (wX8_at cy aN qN aH qH qD aH vN vH vH_places vD vD_now) H := by rw [hH]; exact hP
  have hS : va_S A s.heap H locs := by rw [hH, hlc]; exact hS
  rw [show W p l e _ s m _ below meth c s.heap [] = W p l e _ s m _ below meth c H locs from by rw [hH, hlc]]
  refine lv_aload_n hx hb dX8_at_0 rfl (lv_at hl 0 rfl) ?_
  refine va_get (D := D) (ci := 7) (v := .ref aH) (C := RX8) (T := TX8) (N := 9) hx hb ht0 niX8 hown hK hP 0 rfl rfl 5 (by decide) (ht0 _ wd522) (fun _ h9 => h9) rfl dX8_at_1 ?_
  refine lv_iload_n hx hb dX8_at_4 rfl (lv_at hl 1 rfl) ?_
  refine lv_iload_n hx hb dX8_at_5 rfl (lv_at hl 2 rfl) ?_
  obtain ⟨r6, hc6, hok⟩ := k_bind hok
  refine kCi (wc := (wX4_hasPlace cy aH qH vH vH_places)) (wc2 := (wX4_hasPlace cy aH qH vH vH_places)) (wr := [(aN, oX8 vN qN aH), (qN 1, oX1 vD qD), (qD 0, rI cy 9 vD_now)]) (ws2 := (wX8_at cy aN qN aH qH qD aH vN vH vH_places vD vD_now)) (kRunV (As := [.int x1, .int x2]) (rest := []) ⟨hx, hb, hml, hown, ht0⟩ (kX4_hasPlace l D cy _ aH qH vH vH_places x1 x2 r6 hc6 _ rfl) (cwV 2 ht0 (gV wd566 wd567 wd568 wd9 wd569) rfl rfl rfl (by decide +kernel) ⟨Nat.le_of_ble_eq_true rfl, Nat.le_of_ble_eq_true rfl⟩) hK hN hP hD [1, 2] rfl (by decide) 1 3 rfl rfl rfl hl.1 rfl (Nat.le_of_ble_eq_true rfl) dX8_at_6 ⟨Nat.zero_le _, Nat.zero_le _⟩) hP hD hS hA [1, 2] [0, 3, 4] rfl rfl (by decide) (by decide) [0, 3, 4, 1, 2] (by decide) rfl rfl (fun H locs hP hD hS => ?_)
  refine lv_if_ne (tgt := 18) hx hb dX8_at_9 (by decide) (fun c9 => ?_) (fun c9 => ?_)
  · have hok := k_neg c9 hok
    refine lv_aload_n hx hb dX8_at_18 rfl (lv_at hl 0 rfl) ?_
    refine va_get (D := D) (ci := 7) (v := .ref (qN 1)) (C := RX8) (T := TX8) (N := 9) hx hb ht0 niX8 hown hK hP 0 rfl rfl 1 (by decide) (ht0 _ wd527) (fun _ h9 => h9) rfl dX8_at_19 ?_
    refine lv_iload_n hx hb dX8_at_22 rfl (lv_at hl 1 rfl) ?_
    refine lv_iload_n hx hb dX8_at_23 rfl (lv_at hl 2 rfl) ?_
    obtain ⟨r24, hc24, hok⟩ := k_bind hok
    refine kCi (wc := (wX8_cellAt cy )) (wc2 := (wX8_cellAt cy )) (wr := [(aN, oX8 vN qN aH), (aH, oX4 vH qH), (qH 9, rI cy 4 vH_places), (qN 1, oX1 vD qD), (qD 0, rI cy 9 vD_now)]) (ws2 := (wX8_at cy aN qN aH qH qD aH vN vH vH_places vD vD_now)) (kRunS (As := [.int x1, .int x2]) (rest := [.ref (qN 1)]) ⟨hx, hb, hml, hown, ht0⟩ (kX8_cellAt l D cy _ x1 x2 r24 hc24 _ rfl) (va_cwS 2 ht0 (gS wd570 wd261 wd57 wd260) rfl rfl rfl (by decide +kernel) ⟨Nat.le_of_ble_eq_true rfl, Nat.le_of_ble_eq_true rfl⟩) hK hN hP hD [] rfl (by decide) rfl hl.1 rfl (Nat.le_of_ble_eq_true rfl) dX8_at_24 ⟨Nat.zero_le _, Nat.zero_le _⟩) hP hD hS hA [] [0, 1, 2, 3, 4] rfl rfl (by decide) (by decide) [0, 1, 2, 3, 4] (by decide) rfl rfl (fun H locs hP hD hS => ?_)
    refine lv_aload_n hx hb dX8_at_27 rfl (lv_at hl 0 rfl) ?_
    refine va_get (D := D) (ci := 7) (v := .ref aH) (C := RX8) (T := TX8) (N := 9) hx hb ht0 niX8 hown hK hP 0 rfl rfl 5 (by decide) (ht0 _ wd522) (fun _ h9 => h9) rfl dX8_at_28 ?_
    refine va_get (D := D) (ci := 3) (v := .int (vH 5)) (C := RX4) (T := TX4) (N := 20) hx hb ht0 niX4 hown hK hP 1 rfl rfl 5 (by decide) (ht0 _ wd543) (fun _ h9 => h9) rfl dX8_at_31 ?_
    obtain ⟨r34, hc34, hok⟩ := k_bind hok
    refine kCi (wc := (wX1_thingAt cy (qN 1) qD vD vD_now)) (wc2 := (wX1_thingAt cy (qN 1) qD vD vD_now)) (wr := [(aN, oX8 vN qN aH), (aH, oX4 vH qH), (qH 9, rI cy 4 vH_places)]) (ws2 := (wX8_at cy aN qN aH qH qD aH vN vH vH_places vD vD_now)) (kRunV (As := [.int r24, .int (vH 5)]) (rest := []) ⟨hx, hb, hml, hown, ht0⟩ (kX1_thingAt l D cy _ (qN 1) qD vD vD_now r24 (vH 5) r34 hc34 _ rfl) (cwV 2 ht0 (gV wd571 wd572 wd573 wd74 wd574) rfl rfl rfl (by decide +kernel) ⟨Nat.le_of_ble_eq_true rfl, Nat.le_of_ble_eq_true rfl⟩) hK hN hP hD [3, 4] rfl (by decide) 3 1 rfl rfl rfl hl.1 rfl (Nat.le_of_ble_eq_true rfl) dX8_at_34 ⟨Nat.zero_le _, Nat.zero_le _⟩) hP hD hS hA [3, 4] [0, 1, 2] rfl rfl (by decide) (by decide) [0, 1, 2, 3, 4] (by decide) rfl rfl (fun H locs hP hD hS => ?_)
    refine lv_istore_n (lv' := [(3, .int r34), (0, .ref aN), (1, .int x1), (2, .int x2)]) hx hb dX8_at_37 rfl hl (by decide) rfl (fun ls hl => ?_)
    refine lv_aload_n hx hb dX8_at_38 rfl (lv_at hl 1 rfl) ?_
    refine lv_iload_n hx hb dX8_at_39 rfl (lv_at hl 0 rfl) ?_
    refine lv_if_ge (tgt := 48) hx hb dX8_at_40 (by decide) (fun c40 => ?_) (fun c40 => ?_)
    · have hok := k_pos c40 hok
      refine lv_iload_n hx hb dX8_at_48 rfl (lv_at hl 0 rfl) ?_
      exact J49 r34 H locs ls hP hD hS (lv_sub hl [] rfl) hok
    · have hok := k_neg c40 hok
      refine lv_bipush (v := -2) hx hb dX8_at_43 (by decide) ?_
      refine lv_goto (tgt := 49) hx hb dX8_at_45 (by decide) ?_
      exact J49 (-2 : Int32) H locs ls hP hD hS (lv_sub hl [] rfl) hok
  · have hok := k_pos c9 hok
    refine lv_aload_n hx hb dX8_at_12 rfl (lv_at hl 0 rfl) ?_
    refine lv_iconst (v := 1) hx hb dX8_at_13 (by decide) ?_
    obtain ⟨⟨r14, vN_14⟩, hc14, hok⟩ := k_bind hok
    try dsimp only at hok
    refine kCi (wc := (wX8_refuse cy aN qN aH aH vN)) (wc2 := (wX8_refuse cy aN qN aH aH vN_14)) (wr := [(aH, oX4 vH qH), (qH 9, rI cy 4 vH_places), (qN 1, oX1 vD qD), (qD 0, rI cy 9 vD_now)]) (ws2 := (wX8_at cy aN qN aH qH qD aH vN_14 vH vH_places vD vD_now)) (kRunV (As := [.int 1]) (rest := []) ⟨hx, hb, hml, hown, ht0⟩ (kX8_refuse l D cy _ aN qN aH vN (1 : Int32) r14 vN_14 hc14 _ rfl) (cwV 1 ht0 (gV wd504 wd505 wd506 wd57 wd507) rfl rfl rfl (by decide +kernel) ⟨Nat.le_of_ble_eq_true rfl, Nat.le_of_ble_eq_true rfl⟩) hK hN hP hD [0] rfl (by decide) 0 7 rfl rfl rfl hl.1 rfl (Nat.le_of_ble_eq_true rfl) dX8_at_14 ⟨Nat.zero_le _, Nat.zero_le _⟩) hP hD hS hA [0] [1, 2, 3, 4] rfl rfl (by decide) (by decide) [4, 0, 1, 2, 3] (by decide) rfl rfl (fun H locs hP hD hS => ?_)
    cases hok
    subst hQe; exact W.iret hx hb hr (fun t ht hW => ⟨⟨_, (), rfl, rfl, by rw [ht]; exact hP, va_K.moved hW.alike hK, hD⟩, hS.F ht⟩) hS.2.2 dX8_at_17
def wsX8_narrow : List Cond := .code yX8_narrow cX8_narrow 4 (some .int) :: W0
abbrev wX8_narrow (cy : Nat → ClassId) (aN : Nat) (qN : Nat → Nat) (aH : Nat) (qH : Nat → Nat) (fvN_5 : Nat) (vN : Nat → Int32) (vH : Nat → Int32) (vH_places : Nat → Int32) (vH_width : Nat → Int32) : va_W := [(aN, oX8 vN qN fvN_5), (aH, oX4 vH qH), (qH 9, rI cy 4 vH_places), (qH 11, rI cy 36 vH_width)]
set_option maxHeartbeats 4000000 in
set_option maxRecDepth 100000 in
theorem kX8_narrow (l : Launch) (D : va_G) (cy : Nat → ClassId) (sz : Nat) (aN : Nat) (qN : Nat → Nat) (aH : Nat) (qH : Nat → Nat) (vN : Nat → Int32) (vH : Nat → Int32) (vH_places : Nat → Int32) (vH_width : Nat → Int32) (x1 : Int32) (x2 : Int32) (zr : Int32) (z_vN : Nat → Int32) (hok : fX8_narrow vN vH vH_places vH_width x1 x2 = some (zr, z_vN)) (A : Nat → Prop) (hAe : va_A (wX8_narrow cy aN qN aH qH aH vN vH vH_places vH_width) sz = A) : Met l yX8_narrow wsX8_narrow ({ frames := 2, cells := 0, slots := 0, locals := 43 } : Room) (kPre D cy [.ref aN, .int x1, .int x2] (wX8_narrow cy aN qN aH qH aH vN vH vH_places vH_width) sz) (kQi D cy zr A (wX8_narrow cy aN qN aH qH aH z_vN vH vH_places vH_width)) 0 0 A := by
  refine Met.ofW (cc := cX8_narrow) (maxL := 4) (ret := (some .int)) (by decide) rfl ?_
  intro p e s m args below meth c s₁ B hml hv
  obtain ⟨rfl, hsz, hP, hK, hD0, hN⟩ := hv
  have hx := B.exec
  have hb := B.bytes
  have hr := B.returns
  have ht0 : ∀ w ∈ W0, w.before _ s = true := fun w h => atoms_spec (ws := wsX8_narrow) B.pre w (List.mem_cons_of_mem _ h)
  have hown : s.vm.findClass RX8 = some m.cls := findClass_of_methodNamed B.named
  have hlocks := B.notSynchronized
  subst hsz
  have hD : va_D A (wX8_narrow cy aN qN aH qH aH vN vH vH_places vH_width) := by rw [← hAe]; exact hD0.self
  have hA : ∀ q : Nat, s.heap.size ≤ q → A q := fun q h => by rw [← hAe]; exact Or.inr h
  have hS : va_S A s.heap s.heap [] := va_S.rf
  have hl := lv_entry ([.ref aN, .int x1, .int x2]) (n := 4) (Nat.le_of_ble_eq_true rfl)
  rw [lg_entry_eq]
  generalize (lg_sl ([.ref aN, .int x1, .int x2]) ++ List.replicate (4 - (lg_sl ([.ref aN, .int x1, .int x2])).length) Slot.unset).toArray = ls at hl ⊢
  have hl : lv_has ls 4 [(0, .ref aN), (1, .int x1), (2, .int x2)] := hl
  generalize hQe : MQ below (kQi D cy zr A (wX8_narrow cy aN qN aH qH aH z_vN vH vH_places vH_width)) ([.ref aN, .int x1, .int x2] : List Value).toArray s 0 0 A = Q
  have J44 : ∀ (t0_44 : Int32), ∀ (H : Heap) (locs : List Loc) (ls : Array Slot), va_P D vwCl (wX8_narrow cy aN qN aH qH aH vN vH vH_places vH_width) H → va_D A (wX8_narrow cy aN qN aH qH aH vN vH vH_places vH_width) → va_S A s.heap H locs → lv_has ls 4 [] → fX8_narrow_J44 vN t0_44 = some (zr, z_vN) → W p l e ({ frames := 2, cells := 0, slots := 0, locals := 43 } : Room) s m ([.ref aN, .int x1, .int x2] : List Value).toArray below meth c H locs 0 0 Q (F0 m 44 ls [.int t0_44, .ref aN]) := by
    intro t0_44 H locs ls hP hD hS hl hok
    unfold fX8_narrow_J44 at hok
    obtain ⟨⟨r44, vN_44c⟩, hc44, hok⟩ := k_bind hok
    try dsimp only at hok
    refine kCi (wc := (wX8_answer cy aN qN aH aH vN)) (wc2 := (wX8_answer cy aN qN aH aH vN_44c)) (wr := [(aH, oX4 vH qH), (qH 9, rI cy 4 vH_places), (qH 11, rI cy 36 vH_width)]) (ws2 := (wX8_narrow cy aN qN aH qH aH vN_44c vH vH_places vH_width)) (kRunV (As := [.int t0_44]) (rest := []) ⟨hx, hb, hml, hown, ht0⟩ (kX8_answer l D cy _ aN qN aH vN t0_44 r44 vN_44c hc44 _ rfl) (cwV 1 ht0 (gV wd538 wd539 wd540 wd57 wd541) rfl rfl rfl (by decide +kernel) ⟨Nat.le_of_ble_eq_true rfl, Nat.le_of_ble_eq_true rfl⟩) hK hN hP hD [0] rfl (by decide) 0 7 rfl rfl rfl hl.1 rfl (Nat.le_of_ble_eq_true rfl) dX8_narrow_44 ⟨Nat.zero_le _, Nat.zero_le _⟩) hP hD hS hA [0] [1, 2, 3] rfl rfl (by decide) (by decide) [3, 0, 1, 2] (by decide) rfl rfl (fun H locs hP hD hS => ?_)
    cases hok
    subst hQe; exact W.iret hx hb hr (fun t ht hW => ⟨⟨_, (), rfl, rfl, by rw [ht]; exact hP, va_K.moved hW.alike hK, hD⟩, hS.F ht⟩) hS.2.2 dX8_narrow_47
  unfold fX8_narrow at hok
  obtain ⟨H, hH⟩ : ∃ H, H = s.heap := ⟨_, rfl⟩
  obtain ⟨locs, hlc⟩ : ∃ x : List Loc, x = [] := ⟨_, rfl⟩
  have hP : va_P D vwCl (wX8_narrow cy aN qN aH qH aH vN vH vH_places vH_width) H := by rw [hH]; exact hP
  have hS : va_S A s.heap H locs := by rw [hH, hlc]; exact hS
  rw [show W p l e _ s m _ below meth c s.heap [] = W p l e _ s m _ below meth c H locs from by rw [hH, hlc]]
  refine lv_aload_n hx hb dX8_narrow_0 rfl (lv_at hl 0 rfl) ?_
  refine va_get (D := D) (ci := 7) (v := .ref aH) (C := RX8) (T := TX8) (N := 9) hx hb ht0 niX8 hown hK hP 0 rfl rfl 5 (by decide) (ht0 _ wd522) (fun _ h9 => h9) rfl dX8_narrow_1 ?_
  refine lv_iload_n hx hb dX8_narrow_4 rfl (lv_at hl 1 rfl) ?_
  refine lv_iload_n hx hb dX8_narrow_5 rfl (lv_at hl 2 rfl) ?_
  obtain ⟨r6, hc6, hok⟩ := k_bind hok
  refine kCi (wc := (wX4_hasPlace cy aH qH vH vH_places)) (wc2 := (wX4_hasPlace cy aH qH vH vH_places)) (wr := [(aN, oX8 vN qN aH), (qH 11, rI cy 36 vH_width)]) (ws2 := (wX8_narrow cy aN qN aH qH aH vN vH vH_places vH_width)) (kRunV (As := [.int x1, .int x2]) (rest := []) ⟨hx, hb, hml, hown, ht0⟩ (kX4_hasPlace l D cy _ aH qH vH vH_places x1 x2 r6 hc6 _ rfl) (cwV 2 ht0 (gV wd566 wd567 wd568 wd9 wd569) rfl rfl rfl (by decide +kernel) ⟨Nat.le_of_ble_eq_true rfl, Nat.le_of_ble_eq_true rfl⟩) hK hN hP hD [1, 2] rfl (by decide) 1 3 rfl rfl rfl hl.1 rfl (Nat.le_of_ble_eq_true rfl) dX8_narrow_6 ⟨Nat.zero_le _, Nat.zero_le _⟩) hP hD hS hA [1, 2] [0, 3] rfl rfl (by decide) (by decide) [0, 2, 3, 1] (by decide) rfl rfl (fun H locs hP hD hS => ?_)
  refine lv_if_ne (tgt := 18) hx hb dX8_narrow_9 (by decide) (fun c9 => ?_) (fun c9 => ?_)
  · have hok := k_neg c9 hok
    refine lv_aload_n hx hb dX8_narrow_18 rfl (lv_at hl 0 rfl) ?_
    refine va_get (D := D) (ci := 7) (v := .ref aH) (C := RX8) (T := TX8) (N := 9) hx hb ht0 niX8 hown hK hP 0 rfl rfl 5 (by decide) (ht0 _ wd522) (fun _ h9 => h9) rfl dX8_narrow_19 ?_
    refine lv_iload_n hx hb dX8_narrow_22 rfl (lv_at hl 1 rfl) ?_
    refine lv_iload_n hx hb dX8_narrow_23 rfl (lv_at hl 2 rfl) ?_
    obtain ⟨r24, hc24, hok⟩ := k_bind hok
    refine kCi (wc := (wX8_cellAt cy )) (wc2 := (wX8_cellAt cy )) (wr := [(aN, oX8 vN qN aH), (aH, oX4 vH qH), (qH 9, rI cy 4 vH_places), (qH 11, rI cy 36 vH_width)]) (ws2 := (wX8_narrow cy aN qN aH qH aH vN vH vH_places vH_width)) (kRunS (As := [.int x1, .int x2]) (rest := [.ref aH]) ⟨hx, hb, hml, hown, ht0⟩ (kX8_cellAt l D cy _ x1 x2 r24 hc24 _ rfl) (va_cwS 2 ht0 (gS wd570 wd261 wd57 wd260) rfl rfl rfl (by decide +kernel) ⟨Nat.le_of_ble_eq_true rfl, Nat.le_of_ble_eq_true rfl⟩) hK hN hP hD [] rfl (by decide) rfl hl.1 rfl (Nat.le_of_ble_eq_true rfl) dX8_narrow_24 ⟨Nat.zero_le _, Nat.zero_le _⟩) hP hD hS hA [] [0, 1, 2, 3] rfl rfl (by decide) (by decide) [0, 1, 2, 3] (by decide) rfl rfl (fun H locs hP hD hS => ?_)
    obtain ⟨r27, hc27, hok⟩ := k_bind hok
    refine kCi (wc := (wX4_widthOf cy aH qH vH vH_width)) (wc2 := (wX4_widthOf cy aH qH vH vH_width)) (wr := [(aN, oX8 vN qN aH), (qH 9, rI cy 4 vH_places)]) (ws2 := (wX8_narrow cy aN qN aH qH aH vN vH vH_places vH_width)) (kRunV (As := [.int r24]) (rest := []) ⟨hx, hb, hml, hown, ht0⟩ (kX4_widthOf l D cy _ aH qH vH vH_width r24 r27 hc27 _ rfl) (cwV 1 ht0 (gV wd575 wd393 wd394 wd9 wd395) rfl rfl rfl (by decide +kernel) ⟨Nat.le_of_ble_eq_true rfl, Nat.le_of_ble_eq_true rfl⟩) hK hN hP hD [1, 3] rfl (by decide) 1 3 rfl rfl rfl hl.1 rfl (Nat.le_of_ble_eq_true rfl) dX8_narrow_27 ⟨Nat.zero_le _, Nat.zero_le _⟩) hP hD hS hA [1, 3] [0, 2] rfl rfl (by decide) (by decide) [0, 2, 1, 3] (by decide) rfl rfl (fun H locs hP hD hS => ?_)
    refine lv_istore_n (lv' := [(3, .int r27), (0, .ref aN), (1, .int x1), (2, .int x2)]) hx hb dX8_narrow_30 rfl hl (by decide) rfl (fun ls hl => ?_)
    refine lv_aload_n hx hb dX8_narrow_31 rfl (lv_at hl 1 rfl) ?_
    refine lv_iload_n hx hb dX8_narrow_32 rfl (lv_at hl 0 rfl) ?_
    refine lv_bipush (v := 10) hx hb dX8_narrow_33 (by decide) ?_
    refine lv_icmp_ne (tgt := 43) hx hb dX8_narrow_35 (by decide) (fun c35 => ?_) (fun c35 => ?_)
    · have hok := k_neg c35 hok
      refine lv_iload_n hx hb dX8_narrow_43 rfl (lv_at hl 0 rfl) ?_
      exact J44 r27 H locs ls hP hD hS (lv_sub hl [] rfl) hok
    · have hok := k_pos c35 hok
      refine lv_bipush (v := -2) hx hb dX8_narrow_38 (by decide) ?_
      refine lv_goto (tgt := 44) hx hb dX8_narrow_40 (by decide) ?_
      exact J44 (-2 : Int32) H locs ls hP hD hS (lv_sub hl [] rfl) hok
  · have hok := k_pos c9 hok
    refine lv_aload_n hx hb dX8_narrow_12 rfl (lv_at hl 0 rfl) ?_
    refine lv_iconst (v := 1) hx hb dX8_narrow_13 (by decide) ?_
    obtain ⟨⟨r14, vN_14⟩, hc14, hok⟩ := k_bind hok
    try dsimp only at hok
    refine kCi (wc := (wX8_refuse cy aN qN aH aH vN)) (wc2 := (wX8_refuse cy aN qN aH aH vN_14)) (wr := [(aH, oX4 vH qH), (qH 9, rI cy 4 vH_places), (qH 11, rI cy 36 vH_width)]) (ws2 := (wX8_narrow cy aN qN aH qH aH vN_14 vH vH_places vH_width)) (kRunV (As := [.int 1]) (rest := []) ⟨hx, hb, hml, hown, ht0⟩ (kX8_refuse l D cy _ aN qN aH vN (1 : Int32) r14 vN_14 hc14 _ rfl) (cwV 1 ht0 (gV wd504 wd505 wd506 wd57 wd507) rfl rfl rfl (by decide +kernel) ⟨Nat.le_of_ble_eq_true rfl, Nat.le_of_ble_eq_true rfl⟩) hK hN hP hD [0] rfl (by decide) 0 7 rfl rfl rfl hl.1 rfl (Nat.le_of_ble_eq_true rfl) dX8_narrow_14 ⟨Nat.zero_le _, Nat.zero_le _⟩) hP hD hS hA [0] [1, 2, 3] rfl rfl (by decide) (by decide) [3, 0, 1, 2] (by decide) rfl rfl (fun H locs hP hD hS => ?_)
    cases hok
    subst hQe; exact W.iret hx hb hr (fun t ht hW => ⟨⟨_, (), rfl, rfl, by rw [ht]; exact hP, va_K.moved hW.alike hK, hD⟩, hS.F ht⟩) hS.2.2 dX8_narrow_17
def wsX8_ahead : List Cond := .code yX8_ahead cX8_ahead 2 (some .int) :: W0
abbrev wX8_ahead (cy : Nat → ClassId) (aN : Nat) (qN : Nat → Nat) (aH : Nat) (qH : Nat → Nat) (qD : Nat → Nat) (fvN_5 : Nat) (vN : Nat → Int32) (vH : Nat → Int32) (vD : Nat → Int32) (vD_now : Nat → Int32) (vH_next : Nat → Int32) : va_W := [(aN, oX8 vN qN fvN_5), (aH, oX4 vH qH), (qN 1, oX1 vD qD), (qD 0, rI cy 9 vD_now), (qH 10, rI cy 36 vH_next)]
set_option maxHeartbeats 4000000 in
set_option maxRecDepth 100000 in
theorem kX8_ahead (l : Launch) (D : va_G) (cy : Nat → ClassId) (sz : Nat) (aN : Nat) (qN : Nat → Nat) (aH : Nat) (qH : Nat → Nat) (qD : Nat → Nat) (vN : Nat → Int32) (vH : Nat → Int32) (vD : Nat → Int32) (vD_now : Nat → Int32) (vH_next : Nat → Int32) (x1 : Int32) (zr : Int32) (z_vN : Nat → Int32) (hok : fX8_ahead vN vH vD vD_now vH_next x1 = some (zr, z_vN)) (A : Nat → Prop) (hAe : va_A (wX8_ahead cy aN qN aH qH qD aH vN vH vD vD_now vH_next) sz = A) : Met l yX8_ahead wsX8_ahead ({ frames := 1, cells := 0, slots := 0, locals := 21 } : Room) (kPre D cy [.ref aN, .int x1] (wX8_ahead cy aN qN aH qH qD aH vN vH vD vD_now vH_next) sz) (kQi D cy zr A (wX8_ahead cy aN qN aH qH qD aH z_vN vH vD vD_now vH_next)) 0 0 A := by
  refine Met.ofW (cc := cX8_ahead) (maxL := 2) (ret := (some .int)) (by decide) rfl ?_
  intro p e s m args below meth c s₁ B hml hv
  obtain ⟨rfl, hsz, hP, hK, hD0, hN⟩ := hv
  have hx := B.exec
  have hb := B.bytes
  have hr := B.returns
  have ht0 : ∀ w ∈ W0, w.before _ s = true := fun w h => atoms_spec (ws := wsX8_ahead) B.pre w (List.mem_cons_of_mem _ h)
  have hown : s.vm.findClass RX8 = some m.cls := findClass_of_methodNamed B.named
  have hlocks := B.notSynchronized
  subst hsz
  have hD : va_D A (wX8_ahead cy aN qN aH qH qD aH vN vH vD vD_now vH_next) := by rw [← hAe]; exact hD0.self
  have hA : ∀ q : Nat, s.heap.size ≤ q → A q := fun q h => by rw [← hAe]; exact Or.inr h
  have hS : va_S A s.heap s.heap [] := va_S.rf
  have hl := lv_entry ([.ref aN, .int x1]) (n := 2) (Nat.le_of_ble_eq_true rfl)
  rw [lg_entry_eq]
  generalize (lg_sl ([.ref aN, .int x1]) ++ List.replicate (2 - (lg_sl ([.ref aN, .int x1])).length) Slot.unset).toArray = ls at hl ⊢
  have hl : lv_has ls 2 [(0, .ref aN), (1, .int x1)] := hl
  unfold fX8_ahead at hok
  obtain ⟨H, hH⟩ : ∃ H, H = s.heap := ⟨_, rfl⟩
  obtain ⟨locs, hlc⟩ : ∃ x : List Loc, x = [] := ⟨_, rfl⟩
  have hP : va_P D vwCl (wX8_ahead cy aN qN aH qH qD aH vN vH vD vD_now vH_next) H := by rw [hH]; exact hP
  have hS : va_S A s.heap H locs := by rw [hH, hlc]; exact hS
  rw [show W p l e _ s m _ below meth c s.heap [] = W p l e _ s m _ below meth c H locs from by rw [hH, hlc]]
  refine lv_aload_n hx hb dX8_ahead_0 rfl (lv_at hl 0 rfl) ?_
  refine va_get (D := D) (ci := 7) (v := .ref aH) (C := RX8) (T := TX8) (N := 9) hx hb ht0 niX8 hown hK hP 0 rfl rfl 5 (by decide) (ht0 _ wd522) (fun _ h9 => h9) rfl dX8_ahead_1 ?_
  refine lv_iload_n hx hb dX8_ahead_4 rfl (lv_at hl 1 rfl) ?_
  obtain ⟨r5, hc5, hok⟩ := k_bind hok
  refine kCi (wc := (wX4_hasThing cy aH qH vH)) (wc2 := (wX4_hasThing cy aH qH vH)) (wr := [(aN, oX8 vN qN aH), (qN 1, oX1 vD qD), (qD 0, rI cy 9 vD_now), (qH 10, rI cy 36 vH_next)]) (ws2 := (wX8_ahead cy aN qN aH qH qD aH vN vH vD vD_now vH_next)) (kRunV (As := [.int x1]) (rest := []) ⟨hx, hb, hml, hown, ht0⟩ (kX4_hasThing l D cy _ aH qH vH x1 r5 hc5 _ rfl) (cwV 1 ht0 (gV wd551 wd552 wd553 wd9 wd554) rfl rfl rfl (by decide +kernel) ⟨Nat.le_of_ble_eq_true rfl, Nat.le_of_ble_eq_true rfl⟩) hK hN hP hD [1] rfl (by decide) 1 3 rfl rfl rfl hl.1 rfl (Nat.le_of_ble_eq_true rfl) dX8_ahead_5 ⟨Nat.zero_le _, Nat.zero_le _⟩) hP hD hS hA [1] [0, 2, 3, 4] rfl rfl (by decide) (by decide) [0, 4, 1, 2, 3] (by decide) rfl rfl (fun H locs hP hD hS => ?_)
  refine lv_if_ne (tgt := 17) hx hb dX8_ahead_8 (by decide) (fun c8 => ?_) (fun c8 => ?_)
  · have hok := k_neg c8 hok
    refine lv_aload_n hx hb dX8_ahead_17 rfl (lv_at hl 0 rfl) ?_
    refine lv_aload_n hx hb dX8_ahead_18 rfl (lv_at hl 0 rfl) ?_
    refine va_get (D := D) (ci := 7) (v := .ref aH) (C := RX8) (T := TX8) (N := 9) hx hb ht0 niX8 hown hK hP 0 rfl rfl 5 (by decide) (ht0 _ wd522) (fun _ h9 => h9) rfl dX8_ahead_19 ?_
    refine lv_aload_n hx hb dX8_ahead_22 rfl (lv_at hl 0 rfl) ?_
    refine va_get (D := D) (ci := 7) (v := .ref (qN 1)) (C := RX8) (T := TX8) (N := 9) hx hb ht0 niX8 hown hK hP 0 rfl rfl 1 (by decide) (ht0 _ wd527) (fun _ h9 => h9) rfl dX8_ahead_23 ?_
    refine lv_iload_n hx hb dX8_ahead_26 rfl (lv_at hl 1 rfl) ?_
    obtain ⟨r27, hc27, hok⟩ := k_bind hok
    refine kCi (wc := (wX1_cellOf cy (qN 1) qD vD vD_now)) (wc2 := (wX1_cellOf cy (qN 1) qD vD vD_now)) (wr := [(aN, oX8 vN qN aH), (aH, oX4 vH qH), (qH 10, rI cy 36 vH_next)]) (ws2 := (wX8_ahead cy aN qN aH qH qD aH vN vH vD vD_now vH_next)) (kRunV (As := [.int x1]) (rest := [.ref aH, .ref aN]) ⟨hx, hb, hml, hown, ht0⟩ (kX1_cellOf l D cy _ (qN 1) qD vD vD_now x1 r27 hc27 _ rfl) (cwV 1 ht0 (gV wd556 wd82 wd83 wd74 wd84) rfl rfl rfl (by decide +kernel) ⟨Nat.le_of_ble_eq_true rfl, Nat.le_of_ble_eq_true rfl⟩) hK hN hP hD [2, 3] rfl (by decide) 2 1 rfl rfl rfl hl.1 rfl (Nat.le_of_ble_eq_true rfl) dX8_ahead_27 ⟨Nat.zero_le _, Nat.zero_le _⟩) hP hD hS hA [2, 3] [0, 1, 4] rfl rfl (by decide) (by decide) [0, 1, 3, 4, 2] (by decide) rfl rfl (fun H locs hP hD hS => ?_)
    obtain ⟨r30, hc30, hok⟩ := k_bind hok
    refine kCi (wc := (wX4_nextOf cy aH qH vH vH_next)) (wc2 := (wX4_nextOf cy aH qH vH vH_next)) (wr := [(aN, oX8 vN qN aH), (qN 1, oX1 vD qD), (qD 0, rI cy 9 vD_now)]) (ws2 := (wX8_ahead cy aN qN aH qH qD aH vN vH vD vD_now vH_next)) (kRunV (As := [.int r27]) (rest := [.ref aN]) ⟨hx, hb, hml, hown, ht0⟩ (kX4_nextOf l D cy _ aH qH vH vH_next r27 r30 hc30 _ rfl) (cwV 1 ht0 (gV wd576 wd139 wd140 wd9 wd141) rfl rfl rfl (by decide +kernel) ⟨Nat.le_of_ble_eq_true rfl, Nat.le_of_ble_eq_true rfl⟩) hK hN hP hD [1, 4] rfl (by decide) 1 3 rfl rfl rfl hl.1 rfl (Nat.le_of_ble_eq_true rfl) dX8_ahead_30 ⟨Nat.zero_le _, Nat.zero_le _⟩) hP hD hS hA [1, 4] [0, 2, 3] rfl rfl (by decide) (by decide) [0, 3, 1, 2, 4] (by decide) rfl rfl (fun H locs hP hD hS => ?_)
    obtain ⟨r33, hc33, hok⟩ := k_bind hok
    refine kCi (wc := (wX8_placeOfCell cy )) (wc2 := (wX8_placeOfCell cy )) (wr := [(aN, oX8 vN qN aH), (aH, oX4 vH qH), (qN 1, oX1 vD qD), (qD 0, rI cy 9 vD_now), (qH 10, rI cy 36 vH_next)]) (ws2 := (wX8_ahead cy aN qN aH qH qD aH vN vH vD vD_now vH_next)) (kRunS (As := [.int r30]) (rest := [.ref aN]) ⟨hx, hb, hml, hown, ht0⟩ (kX8_placeOfCell l D cy _ r30 r33 hc33 _ rfl) (va_cwS 1 ht0 (gS wd558 wd559 wd57 wd560) rfl rfl rfl (by decide +kernel) ⟨Nat.le_of_ble_eq_true rfl, Nat.le_of_ble_eq_true rfl⟩) hK hN hP hD [] rfl (by decide) rfl hl.1 rfl (Nat.le_of_ble_eq_true rfl) dX8_ahead_33 ⟨Nat.zero_le _, Nat.zero_le _⟩) hP hD hS hA [] [0, 1, 2, 3, 4] rfl rfl (by decide) (by decide) [0, 1, 2, 3, 4] (by decide) rfl rfl (fun H locs hP hD hS => ?_)
    obtain ⟨⟨r36, vN_36⟩, hc36, hok⟩ := k_bind hok
    try dsimp only at hok
    refine kCi (wc := (wX8_answer cy aN qN aH aH vN)) (wc2 := (wX8_answer cy aN qN aH aH vN_36)) (wr := [(aH, oX4 vH qH), (qN 1, oX1 vD qD), (qD 0, rI cy 9 vD_now), (qH 10, rI cy 36 vH_next)]) (ws2 := (wX8_ahead cy aN qN aH qH qD aH vN_36 vH vD vD_now vH_next)) (kRunV (As := [.int r33]) (rest := []) ⟨hx, hb, hml, hown, ht0⟩ (kX8_answer l D cy _ aN qN aH vN r33 r36 vN_36 hc36 _ rfl) (cwV 1 ht0 (gV wd538 wd539 wd540 wd57 wd541) rfl rfl rfl (by decide +kernel) ⟨Nat.le_of_ble_eq_true rfl, Nat.le_of_ble_eq_true rfl⟩) hK hN hP hD [0] rfl (by decide) 0 7 rfl rfl rfl hl.1 rfl (Nat.le_of_ble_eq_true rfl) dX8_ahead_36 ⟨Nat.zero_le _, Nat.zero_le _⟩) hP hD hS hA [0] [1, 2, 3, 4] rfl rfl (by decide) (by decide) [4, 0, 1, 2, 3] (by decide) rfl rfl (fun H locs hP hD hS => ?_)
    cases hok
    exact W.iret hx hb hr (fun t ht hW => ⟨⟨_, (), rfl, rfl, by rw [ht]; exact hP, va_K.moved hW.alike hK, hD⟩, hS.F ht⟩) hS.2.2 dX8_ahead_39
  · have hok := k_pos c8 hok
    refine lv_aload_n hx hb dX8_ahead_11 rfl (lv_at hl 0 rfl) ?_
    refine lv_iconst (v := 1) hx hb dX8_ahead_12 (by decide) ?_
    obtain ⟨⟨r13, vN_13⟩, hc13, hok⟩ := k_bind hok
    try dsimp only at hok
    refine kCi (wc := (wX8_refuse cy aN qN aH aH vN)) (wc2 := (wX8_refuse cy aN qN aH aH vN_13)) (wr := [(aH, oX4 vH qH), (qN 1, oX1 vD qD), (qD 0, rI cy 9 vD_now), (qH 10, rI cy 36 vH_next)]) (ws2 := (wX8_ahead cy aN qN aH qH qD aH vN_13 vH vD vD_now vH_next)) (kRunV (As := [.int 1]) (rest := []) ⟨hx, hb, hml, hown, ht0⟩ (kX8_refuse l D cy _ aN qN aH vN (1 : Int32) r13 vN_13 hc13 _ rfl) (cwV 1 ht0 (gV wd504 wd505 wd506 wd57 wd507) rfl rfl rfl (by decide +kernel) ⟨Nat.le_of_ble_eq_true rfl, Nat.le_of_ble_eq_true rfl⟩) hK hN hP hD [0] rfl (by decide) 0 7 rfl rfl rfl hl.1 rfl (Nat.le_of_ble_eq_true rfl) dX8_ahead_13 ⟨Nat.zero_le _, Nat.zero_le _⟩) hP hD hS hA [0] [1, 2, 3, 4] rfl rfl (by decide) (by decide) [4, 0, 1, 2, 3] (by decide) rfl rfl (fun H locs hP hD hS => ?_)
    cases hok
    exact W.iret hx hb hr (fun t ht hW => ⟨⟨_, (), rfl, rfl, by rw [ht]; exact hP, va_K.moved hW.alike hK, hD⟩, hS.F ht⟩) hS.2.2 dX8_ahead_16
def wsX8_goes : List Cond := .code yX8_goes cX8_goes 1 (some .int) :: W0
abbrev wX8_goes (cy : Nat → ClassId) (aN : Nat) (qN : Nat → Nat) (aH : Nat) (qH : Nat → Nat) (qW : Nat → Nat) (aH0 : Nat) (qD : Nat → Nat) (fvN_5 : Nat) (fvW_4 : Nat) (vN : Nat → Int32) (vH : Nat → Int32) (vW : Nat → Int32) (vD : Nat → Int32) (vD_now : Nat → Int32) (vW_who : Nat → Int32) (vH_kinds : Nat → Int32) (vW_cells : Nat → Int32) (vH_sorts : Nat → Int32) (vH_next : Nat → Int32) (vW_inFront : Nat → Int32) (vH_sizes : Nat → Int32) (vH_width : Nat → Int32) : va_W := [(aN, oX8 vN qN fvN_5), (aH, oX4 vH qH), (qN 2, oX6 vW qW fvW_4), (qN 1, oX1 vD qD), (qD 0, rI cy 9 vD_now), (qW 1, rI cy 36 vW_who), (qH 14, rI cy 7 vH_kinds), (qW 0, rI cy 7 vW_cells), (qH 8, rI cy 4 vH_sorts), (qH 10, rI cy 36 vH_next), (qW 2, rI cy 7 vW_inFront), (qH 15, rI cy 7 vH_sizes), (qH 11, rI cy 36 vH_width)]
set_option maxHeartbeats 4000000 in
set_option maxRecDepth 100000 in
theorem kX8_goes (l : Launch) (D : va_G) (cy : Nat → ClassId) (sz : Nat) (aN : Nat) (qN : Nat → Nat) (aH : Nat) (qH : Nat → Nat) (qW : Nat → Nat) (aH0 : Nat) (qD : Nat → Nat) (vN : Nat → Int32) (vH : Nat → Int32) (vW : Nat → Int32) (vD : Nat → Int32) (vD_now : Nat → Int32) (vW_who : Nat → Int32) (vH_kinds : Nat → Int32) (vW_cells : Nat → Int32) (vH_sorts : Nat → Int32) (vH_next : Nat → Int32) (vW_inFront : Nat → Int32) (vH_sizes : Nat → Int32) (vH_width : Nat → Int32) (zr : Int32) (z_vN : Nat → Int32) (z_vW : Nat → Int32) (z_vW_who : Nat → Int32) (z_vW_cells : Nat → Int32) (z_vW_inFront : Nat → Int32) (z_aH0 : Nat) (hok : fX8_goes aH aH0 vN vH vW vD vD_now vW_who vH_kinds vW_cells vH_sorts vH_next vW_inFront vH_sizes vH_width = some (zr, z_vN, z_vW, z_vW_who, z_vW_cells, z_vW_inFront, z_aH0)) (A : Nat → Prop) (hAe : va_A (wX8_goes cy aN qN aH qH qW aH0 qD aH aH0 vN vH vW vD vD_now vW_who vH_kinds vW_cells vH_sorts vH_next vW_inFront vH_sizes vH_width) sz = A) : Met l yX8_goes wsX8_goes ({ frames := 3, cells := 0, slots := 0, locals := 68 } : Room) (kPre D cy [.ref aN] (wX8_goes cy aN qN aH qH qW aH0 qD aH aH0 vN vH vW vD vD_now vW_who vH_kinds vW_cells vH_sorts vH_next vW_inFront vH_sizes vH_width) sz) (kQi D cy zr A (wX8_goes cy aN qN aH qH qW aH0 qD aH z_aH0 z_vN vH z_vW vD vD_now z_vW_who vH_kinds z_vW_cells vH_sorts vH_next z_vW_inFront vH_sizes vH_width)) 0 0 A := by
  refine Met.ofW (cc := cX8_goes) (maxL := 1) (ret := (some .int)) (by decide) rfl ?_
  intro p e s m args below meth c s₁ B hml hv
  obtain ⟨rfl, hsz, hP, hK, hD0, hN⟩ := hv
  have hx := B.exec
  have hb := B.bytes
  have hr := B.returns
  have ht0 : ∀ w ∈ W0, w.before _ s = true := fun w h => atoms_spec (ws := wsX8_goes) B.pre w (List.mem_cons_of_mem _ h)
  have hown : s.vm.findClass RX8 = some m.cls := findClass_of_methodNamed B.named
  have hlocks := B.notSynchronized
  subst hsz
  have hD : va_D A (wX8_goes cy aN qN aH qH qW aH0 qD aH aH0 vN vH vW vD vD_now vW_who vH_kinds vW_cells vH_sorts vH_next vW_inFront vH_sizes vH_width) := by rw [← hAe]; exact hD0.self
  have hA : ∀ q : Nat, s.heap.size ≤ q → A q := fun q h => by rw [← hAe]; exact Or.inr h
  have hS : va_S A s.heap s.heap [] := va_S.rf
  have hl := lv_entry ([.ref aN]) (n := 1) (Nat.le_of_ble_eq_true rfl)
  rw [lg_entry_eq]
  generalize (lg_sl ([.ref aN]) ++ List.replicate (1 - (lg_sl ([.ref aN])).length) Slot.unset).toArray = ls at hl ⊢
  have hl : lv_has ls 1 [(0, .ref aN)] := hl
  unfold fX8_goes at hok
  obtain ⟨H, hH⟩ : ∃ H, H = s.heap := ⟨_, rfl⟩
  obtain ⟨locs, hlc⟩ : ∃ x : List Loc, x = [] := ⟨_, rfl⟩
  have hP : va_P D vwCl (wX8_goes cy aN qN aH qH qW aH0 qD aH aH0 vN vH vW vD vD_now vW_who vH_kinds vW_cells vH_sorts vH_next vW_inFront vH_sizes vH_width) H := by rw [hH]; exact hP
  have hS : va_S A s.heap H locs := by rw [hH, hlc]; exact hS
  rw [show W p l e _ s m _ below meth c s.heap [] = W p l e _ s m _ below meth c H locs from by rw [hH, hlc]]
  refine lv_aload_n hx hb dX8_goes_0 rfl (lv_at hl 0 rfl) ?_
  refine va_get (D := D) (ci := 7) (v := .ref aH) (C := RX8) (T := TX8) (N := 9) hx hb ht0 niX8 hown hK hP 0 rfl rfl 5 (by decide) (ht0 _ wd522) (fun _ h9 => h9) rfl dX8_goes_1 ?_
  obtain ⟨r4, hc4, hok⟩ := k_bind hok
  refine kCi (wc := (wX4_stands cy aH qH vH)) (wc2 := (wX4_stands cy aH qH vH)) (wr := [(aN, oX8 vN qN aH), (qN 2, oX6 vW qW aH0), (qN 1, oX1 vD qD), (qD 0, rI cy 9 vD_now), (qW 1, rI cy 36 vW_who), (qH 14, rI cy 7 vH_kinds), (qW 0, rI cy 7 vW_cells), (qH 8, rI cy 4 vH_sorts), (qH 10, rI cy 36 vH_next), (qW 2, rI cy 7 vW_inFront), (qH 15, rI cy 7 vH_sizes), (qH 11, rI cy 36 vH_width)]) (ws2 := (wX8_goes cy aN qN aH qH qW aH0 qD aH aH0 vN vH vW vD vD_now vW_who vH_kinds vW_cells vH_sorts vH_next vW_inFront vH_sizes vH_width)) (kRunV (As := []) (rest := []) ⟨hx, hb, hml, hown, ht0⟩ (kX4_stands l D cy _ aH qH vH r4 hc4 _ rfl) (cwV 0 ht0 (gV wd577 wd462 wd463 wd9 wd464) rfl rfl rfl (by decide +kernel) ⟨Nat.le_of_ble_eq_true rfl, Nat.le_of_ble_eq_true rfl⟩) hK hN hP hD [1] rfl (by decide) 1 3 rfl rfl rfl hl.1 rfl (Nat.le_of_ble_eq_true rfl) dX8_goes_4 ⟨Nat.zero_le _, Nat.zero_le _⟩) hP hD hS hA [1] [0, 2, 3, 4, 5, 6, 7, 8, 9, 10, 11, 12] rfl rfl (by decide) (by decide) [0, 12, 1, 2, 3, 4, 5, 6, 7, 8, 9, 10, 11] (by decide) rfl rfl (fun H locs hP hD hS => ?_)
  refine lv_if_ne (tgt := 16) hx hb dX8_goes_7 (by decide) (fun c7 => ?_) (fun c7 => ?_)
  · have hok := k_neg c7 hok
    refine lv_aload_n hx hb dX8_goes_16 rfl (lv_at hl 0 rfl) ?_
    refine va_get (D := D) (ci := 7) (v := .ref (qN 2)) (C := RX8) (T := TX8) (N := 9) hx hb ht0 niX8 hown hK hP 0 rfl rfl 2 (by decide) (ht0 _ wd578) (fun _ h9 => h9) rfl dX8_goes_17 ?_
    refine lv_aload_n hx hb dX8_goes_20 rfl (lv_at hl 0 rfl) ?_
    refine va_get (D := D) (ci := 7) (v := .ref aH) (C := RX8) (T := TX8) (N := 9) hx hb ht0 niX8 hown hK hP 0 rfl rfl 5 (by decide) (ht0 _ wd522) (fun _ h9 => h9) rfl dX8_goes_21 ?_
    refine lv_aload_n hx hb dX8_goes_24 rfl (lv_at hl 0 rfl) ?_
    refine va_get (D := D) (ci := 7) (v := .ref (qN 1)) (C := RX8) (T := TX8) (N := 9) hx hb ht0 niX8 hown hK hP 0 rfl rfl 1 (by decide) (ht0 _ wd527) (fun _ h9 => h9) rfl dX8_goes_25 ?_
    refine lv_iconst (v := 0) hx hb dX8_goes_28 (by decide) ?_
    obtain ⟨⟨vW_29, vW_who_29, vW_cells_29⟩, hc29, hok⟩ := k_bind hok
    try dsimp only at hok
    refine kCv (wc := (wX6_start cy (qN 2) aH (qN 1) qW aH0 qD qH aH0 vW vD vD_now vW_who vH vH_kinds vW_cells vH_sorts)) (wc2 := (wX6_start cy (qN 2) aH (qN 1) qW aH0 qD qH aH vW_29 vD vD_now vW_who_29 vH vH_kinds vW_cells_29 vH_sorts)) (wr := [(aN, oX8 vN qN aH), (qH 10, rI cy 36 vH_next), (qW 2, rI cy 7 vW_inFront), (qH 15, rI cy 7 vH_sizes), (qH 11, rI cy 36 vH_width)]) (ws2 := (wX8_goes cy aN qN aH qH qW aH0 qD aH aH vN vH vW_29 vD vD_now vW_who_29 vH_kinds vW_cells_29 vH_sorts vH_next vW_inFront vH_sizes vH_width)) (kRunV (As := [.ref aH, .ref (qN 1), .int 0]) (rest := []) ⟨hx, hb, hml, hown, ht0⟩ (kX6_start l D cy _ (qN 2) aH (qN 1) qW aH0 qD qH vW vD vD_now vW_who vH vH_kinds vW_cells vH_sorts (0 : Int32) vW_29 vW_who_29 vW_cells_29 hc29 _ rfl) (cwV 3 ht0 (gV wd579 wd181 wd182 wd114 wd183) rfl rfl rfl (by decide +kernel) ⟨Nat.le_of_ble_eq_true rfl, Nat.le_of_ble_eq_true rfl⟩) hK hN hP hD [2, 3, 4, 5, 1, 6, 7, 8] rfl (by decide) 2 5 rfl rfl rfl hl.1 rfl (Nat.le_of_ble_eq_true rfl) dX8_goes_29 ⟨Nat.zero_le _, Nat.zero_le _⟩) hP hD hS hA [2, 3, 4, 5, 1, 6, 7, 8] [0, 9, 10, 11, 12] rfl rfl (by decide) (by decide) [0, 9, 5, 6, 7, 8, 10, 11, 12, 1, 2, 3, 4] (by decide) rfl rfl (fun H locs hP hD hS => ?_)
    refine lv_aload_n hx hb dX8_goes_32 rfl (lv_at hl 0 rfl) ?_
    refine va_get (D := D) (ci := 7) (v := .ref (qN 2)) (C := RX8) (T := TX8) (N := 9) hx hb ht0 niX8 hown hK hP 0 rfl rfl 2 (by decide) (ht0 _ wd578) (fun _ h9 => h9) rfl dX8_goes_33 ?_
    refine lv_iconst (v := 0) hx hb dX8_goes_36 (by decide) ?_
    obtain ⟨⟨vW_37, vW_inFront_37⟩, hc37, hok⟩ := k_bind hok
    try dsimp only at hok
    refine kCv (wc := (wX6_decide cy (qN 2) qW aH qH aH vW_29 vH vW_cells_29 vH_next vW_who_29 vW_inFront vH_sizes vH_width vH_kinds)) (wc2 := (wX6_decide cy (qN 2) qW aH qH aH vW_37 vH vW_cells_29 vH_next vW_who_29 vW_inFront_37 vH_sizes vH_width vH_kinds)) (wr := [(aN, oX8 vN qN aH), (qN 1, oX1 vD qD), (qD 0, rI cy 9 vD_now), (qH 8, rI cy 4 vH_sorts)]) (ws2 := (wX8_goes cy aN qN aH qH qW aH0 qD aH aH vN vH vW_37 vD vD_now vW_who_29 vH_kinds vW_cells_29 vH_sorts vH_next vW_inFront_37 vH_sizes vH_width)) (kRunV (As := [.int 0]) (rest := []) ⟨hx, hb, hml, hown, ht0⟩ (kX6_decide l D cy _ (qN 2) qW aH qH vW_29 vH vW_cells_29 vH_next vW_who_29 vW_inFront vH_sizes vH_width vH_kinds (0 : Int32) vW_37 vW_inFront_37 hc37 _ rfl) (cwV 1 ht0 (gV wd580 wd151 wd152 wd114 wd153) rfl rfl rfl (by decide +kernel) ⟨Nat.le_of_ble_eq_true rfl, Nat.le_of_ble_eq_true rfl⟩) hK hN hP hD [2, 1, 7, 9, 5, 10, 11, 12, 6] rfl (by decide) 2 5 rfl rfl rfl hl.1 rfl (Nat.le_of_ble_eq_true rfl) dX8_goes_37 ⟨Nat.zero_le _, Nat.zero_le _⟩) hP hD hS hA [2, 1, 7, 9, 5, 10, 11, 12, 6] [0, 3, 4, 8] rfl rfl (by decide) (by decide) [0, 5, 4, 1, 2, 8, 12, 6, 3, 7, 9, 10, 11] (by decide) rfl rfl (fun H locs hP hD hS => ?_)
    refine lv_aload_n hx hb dX8_goes_40 rfl (lv_at hl 0 rfl) ?_
    refine lv_aload_n hx hb dX8_goes_41 rfl (lv_at hl 0 rfl) ?_
    refine va_get (D := D) (ci := 7) (v := .ref (qN 2)) (C := RX8) (T := TX8) (N := 9) hx hb ht0 niX8 hown hK hP 0 rfl rfl 2 (by decide) (ht0 _ wd578) (fun _ h9 => h9) rfl dX8_goes_42 ?_
    obtain ⟨r45, hc45, hok⟩ := k_bind hok
    refine kCi (wc := (wX6_went cy (qN 2) qW aH aH vW_37)) (wc2 := (wX6_went cy (qN 2) qW aH aH vW_37)) (wr := [(aN, oX8 vN qN aH), (aH, oX4 vH qH), (qN 1, oX1 vD qD), (qD 0, rI cy 9 vD_now), (qW 1, rI cy 36 vW_who_29), (qH 14, rI cy 7 vH_kinds), (qW 0, rI cy 7 vW_cells_29), (qH 8, rI cy 4 vH_sorts), (qH 10, rI cy 36 vH_next), (qW 2, rI cy 7 vW_inFront_37), (qH 15, rI cy 7 vH_sizes), (qH 11, rI cy 36 vH_width)]) (ws2 := (wX8_goes cy aN qN aH qH qW aH0 qD aH aH vN vH vW_37 vD vD_now vW_who_29 vH_kinds vW_cells_29 vH_sorts vH_next vW_inFront_37 vH_sizes vH_width)) (kRunV (As := []) (rest := [.ref aN]) ⟨hx, hb, hml, hown, ht0⟩ (kX6_went l D cy _ (qN 2) qW aH vW_37 r45 hc45 _ rfl) (cwV 0 ht0 (gV wd581 wd582 wd583 wd114 wd584) rfl rfl rfl (by decide +kernel) ⟨Nat.le_of_ble_eq_true rfl, Nat.le_of_ble_eq_true rfl⟩) hK hN hP hD [2] rfl (by decide) 2 5 rfl rfl rfl hl.1 rfl (Nat.le_of_ble_eq_true rfl) dX8_goes_45 ⟨Nat.zero_le _, Nat.zero_le _⟩) hP hD hS hA [2] [0, 1, 3, 4, 5, 6, 7, 8, 9, 10, 11, 12] rfl rfl (by decide) (by decide) [0, 1, 12, 2, 3, 4, 5, 6, 7, 8, 9, 10, 11] (by decide) rfl rfl (fun H locs hP hD hS => ?_)
    obtain ⟨⟨r48, vN_48⟩, hc48, hok⟩ := k_bind hok
    try dsimp only at hok
    refine kCi (wc := (wX8_answer cy aN qN aH aH vN)) (wc2 := (wX8_answer cy aN qN aH aH vN_48)) (wr := [(aH, oX4 vH qH), (qN 2, oX6 vW_37 qW aH), (qN 1, oX1 vD qD), (qD 0, rI cy 9 vD_now), (qW 1, rI cy 36 vW_who_29), (qH 14, rI cy 7 vH_kinds), (qW 0, rI cy 7 vW_cells_29), (qH 8, rI cy 4 vH_sorts), (qH 10, rI cy 36 vH_next), (qW 2, rI cy 7 vW_inFront_37), (qH 15, rI cy 7 vH_sizes), (qH 11, rI cy 36 vH_width)]) (ws2 := (wX8_goes cy aN qN aH qH qW aH0 qD aH aH vN_48 vH vW_37 vD vD_now vW_who_29 vH_kinds vW_cells_29 vH_sorts vH_next vW_inFront_37 vH_sizes vH_width)) (kRunV (As := [.int r45]) (rest := []) ⟨hx, hb, hml, hown, ht0⟩ (kX8_answer l D cy _ aN qN aH vN r45 r48 vN_48 hc48 _ rfl) (cwV 1 ht0 (gV wd538 wd539 wd540 wd57 wd541) rfl rfl rfl (by decide +kernel) ⟨Nat.le_of_ble_eq_true rfl, Nat.le_of_ble_eq_true rfl⟩) hK hN hP hD [0] rfl (by decide) 0 7 rfl rfl rfl hl.1 rfl (Nat.le_of_ble_eq_true rfl) dX8_goes_48 ⟨Nat.zero_le _, Nat.zero_le _⟩) hP hD hS hA [0] [1, 2, 3, 4, 5, 6, 7, 8, 9, 10, 11, 12] rfl rfl (by decide) (by decide) [12, 0, 1, 2, 3, 4, 5, 6, 7, 8, 9, 10, 11] (by decide) rfl rfl (fun H locs hP hD hS => ?_)
    cases hok
    exact W.iret hx hb hr (fun t ht hW => ⟨⟨_, (), rfl, rfl, by rw [ht]; exact hP, va_K.moved hW.alike hK, hD⟩, hS.F ht⟩) hS.2.2 dX8_goes_51
  · have hok := k_pos c7 hok
    refine lv_aload_n hx hb dX8_goes_10 rfl (lv_at hl 0 rfl) ?_
    refine lv_iconst (v := 1) hx hb dX8_goes_11 (by decide) ?_
    obtain ⟨⟨r12, vN_12⟩, hc12, hok⟩ := k_bind hok
    try dsimp only at hok
    refine kCi (wc := (wX8_refuse cy aN qN aH aH vN)) (wc2 := (wX8_refuse cy aN qN aH aH vN_12)) (wr := [(aH, oX4 vH qH), (qN 2, oX6 vW qW aH0), (qN 1, oX1 vD qD), (qD 0, rI cy 9 vD_now), (qW 1, rI cy 36 vW_who), (qH 14, rI cy 7 vH_kinds), (qW 0, rI cy 7 vW_cells), (qH 8, rI cy 4 vH_sorts), (qH 10, rI cy 36 vH_next), (qW 2, rI cy 7 vW_inFront), (qH 15, rI cy 7 vH_sizes), (qH 11, rI cy 36 vH_width)]) (ws2 := (wX8_goes cy aN qN aH qH qW aH0 qD aH aH0 vN_12 vH vW vD vD_now vW_who vH_kinds vW_cells vH_sorts vH_next vW_inFront vH_sizes vH_width)) (kRunV (As := [.int 1]) (rest := []) ⟨hx, hb, hml, hown, ht0⟩ (kX8_refuse l D cy _ aN qN aH vN (1 : Int32) r12 vN_12 hc12 _ rfl) (cwV 1 ht0 (gV wd504 wd505 wd506 wd57 wd507) rfl rfl rfl (by decide +kernel) ⟨Nat.le_of_ble_eq_true rfl, Nat.le_of_ble_eq_true rfl⟩) hK hN hP hD [0] rfl (by decide) 0 7 rfl rfl rfl hl.1 rfl (Nat.le_of_ble_eq_true rfl) dX8_goes_12 ⟨Nat.zero_le _, Nat.zero_le _⟩) hP hD hS hA [0] [1, 2, 3, 4, 5, 6, 7, 8, 9, 10, 11, 12] rfl rfl (by decide) (by decide) [12, 0, 1, 2, 3, 4, 5, 6, 7, 8, 9, 10, 11] (by decide) rfl rfl (fun H locs hP hD hS => ?_)
    cases hok
    exact W.iret hx hb hr (fun t ht hW => ⟨⟨_, (), rfl, rfl, by rw [ht]; exact hP, va_K.moved hW.alike hK, hD⟩, hS.F ht⟩) hS.2.2 dX8_goes_15
def wsX8_blocked : List Cond := .code yX8_blocked cX8_blocked 1 (some .int) :: W0
abbrev wX8_blocked (cy : Nat → ClassId) (aN : Nat) (qN : Nat → Nat) (aH : Nat) (qH : Nat → Nat) (qW : Nat → Nat) (aH0 : Nat) (qD : Nat → Nat) (fvN_5 : Nat) (fvW_4 : Nat) (vN : Nat → Int32) (vH : Nat → Int32) (vW : Nat → Int32) (vD : Nat → Int32) (vD_now : Nat → Int32) (vW_who : Nat → Int32) (vH_kinds : Nat → Int32) (vW_cells : Nat → Int32) (vH_sorts : Nat → Int32) (vH_next : Nat → Int32) (vW_inFront : Nat → Int32) (vH_sizes : Nat → Int32) (vH_width : Nat → Int32) : va_W := [(aN, oX8 vN qN fvN_5), (aH, oX4 vH qH), (qN 2, oX6 vW qW fvW_4), (qN 1, oX1 vD qD), (qD 0, rI cy 9 vD_now), (qW 1, rI cy 36 vW_who), (qH 14, rI cy 7 vH_kinds), (qW 0, rI cy 7 vW_cells), (qH 8, rI cy 4 vH_sorts), (qH 10, rI cy 36 vH_next), (qW 2, rI cy 7 vW_inFront), (qH 15, rI cy 7 vH_sizes), (qH 11, rI cy 36 vH_width)]
set_option maxHeartbeats 4000000 in
set_option maxRecDepth 100000 in
theorem kX8_blocked (l : Launch) (D : va_G) (cy : Nat → ClassId) (sz : Nat) (aN : Nat) (qN : Nat → Nat) (aH : Nat) (qH : Nat → Nat) (qW : Nat → Nat) (aH0 : Nat) (qD : Nat → Nat) (vN : Nat → Int32) (vH : Nat → Int32) (vW : Nat → Int32) (vD : Nat → Int32) (vD_now : Nat → Int32) (vW_who : Nat → Int32) (vH_kinds : Nat → Int32) (vW_cells : Nat → Int32) (vH_sorts : Nat → Int32) (vH_next : Nat → Int32) (vW_inFront : Nat → Int32) (vH_sizes : Nat → Int32) (vH_width : Nat → Int32) (zr : Int32) (z_vN : Nat → Int32) (z_vW : Nat → Int32) (z_vW_who : Nat → Int32) (z_vW_cells : Nat → Int32) (z_vW_inFront : Nat → Int32) (z_aH0 : Nat) (hok : fX8_blocked aH aH0 vN vH vW vD vD_now vW_who vH_kinds vW_cells vH_sorts vH_next vW_inFront vH_sizes vH_width = some (zr, z_vN, z_vW, z_vW_who, z_vW_cells, z_vW_inFront, z_aH0)) (A : Nat → Prop) (hAe : va_A (wX8_blocked cy aN qN aH qH qW aH0 qD aH aH0 vN vH vW vD vD_now vW_who vH_kinds vW_cells vH_sorts vH_next vW_inFront vH_sizes vH_width) sz = A) : Met l yX8_blocked wsX8_blocked ({ frames := 3, cells := 0, slots := 0, locals := 68 } : Room) (kPre D cy [.ref aN] (wX8_blocked cy aN qN aH qH qW aH0 qD aH aH0 vN vH vW vD vD_now vW_who vH_kinds vW_cells vH_sorts vH_next vW_inFront vH_sizes vH_width) sz) (kQi D cy zr A (wX8_blocked cy aN qN aH qH qW aH0 qD aH z_aH0 z_vN vH z_vW vD vD_now z_vW_who vH_kinds z_vW_cells vH_sorts vH_next z_vW_inFront vH_sizes vH_width)) 0 0 A := by
  refine Met.ofW (cc := cX8_blocked) (maxL := 1) (ret := (some .int)) (by decide) rfl ?_
  intro p e s m args below meth c s₁ B hml hv
  obtain ⟨rfl, hsz, hP, hK, hD0, hN⟩ := hv
  have hx := B.exec
  have hb := B.bytes
  have hr := B.returns
  have ht0 : ∀ w ∈ W0, w.before _ s = true := fun w h => atoms_spec (ws := wsX8_blocked) B.pre w (List.mem_cons_of_mem _ h)
  have hown : s.vm.findClass RX8 = some m.cls := findClass_of_methodNamed B.named
  have hlocks := B.notSynchronized
  subst hsz
  have hD : va_D A (wX8_blocked cy aN qN aH qH qW aH0 qD aH aH0 vN vH vW vD vD_now vW_who vH_kinds vW_cells vH_sorts vH_next vW_inFront vH_sizes vH_width) := by rw [← hAe]; exact hD0.self
  have hA : ∀ q : Nat, s.heap.size ≤ q → A q := fun q h => by rw [← hAe]; exact Or.inr h
  have hS : va_S A s.heap s.heap [] := va_S.rf
  have hl := lv_entry ([.ref aN]) (n := 1) (Nat.le_of_ble_eq_true rfl)
  rw [lg_entry_eq]
  generalize (lg_sl ([.ref aN]) ++ List.replicate (1 - (lg_sl ([.ref aN])).length) Slot.unset).toArray = ls at hl ⊢
  have hl : lv_has ls 1 [(0, .ref aN)] := hl
  unfold fX8_blocked at hok
  obtain ⟨H, hH⟩ : ∃ H, H = s.heap := ⟨_, rfl⟩
  obtain ⟨locs, hlc⟩ : ∃ x : List Loc, x = [] := ⟨_, rfl⟩
  have hP : va_P D vwCl (wX8_blocked cy aN qN aH qH qW aH0 qD aH aH0 vN vH vW vD vD_now vW_who vH_kinds vW_cells vH_sorts vH_next vW_inFront vH_sizes vH_width) H := by rw [hH]; exact hP
  have hS : va_S A s.heap H locs := by rw [hH, hlc]; exact hS
  rw [show W p l e _ s m _ below meth c s.heap [] = W p l e _ s m _ below meth c H locs from by rw [hH, hlc]]
  refine lv_aload_n hx hb dX8_blocked_0 rfl (lv_at hl 0 rfl) ?_
  refine va_get (D := D) (ci := 7) (v := .ref aH) (C := RX8) (T := TX8) (N := 9) hx hb ht0 niX8 hown hK hP 0 rfl rfl 5 (by decide) (ht0 _ wd522) (fun _ h9 => h9) rfl dX8_blocked_1 ?_
  obtain ⟨r4, hc4, hok⟩ := k_bind hok
  refine kCi (wc := (wX4_stands cy aH qH vH)) (wc2 := (wX4_stands cy aH qH vH)) (wr := [(aN, oX8 vN qN aH), (qN 2, oX6 vW qW aH0), (qN 1, oX1 vD qD), (qD 0, rI cy 9 vD_now), (qW 1, rI cy 36 vW_who), (qH 14, rI cy 7 vH_kinds), (qW 0, rI cy 7 vW_cells), (qH 8, rI cy 4 vH_sorts), (qH 10, rI cy 36 vH_next), (qW 2, rI cy 7 vW_inFront), (qH 15, rI cy 7 vH_sizes), (qH 11, rI cy 36 vH_width)]) (ws2 := (wX8_blocked cy aN qN aH qH qW aH0 qD aH aH0 vN vH vW vD vD_now vW_who vH_kinds vW_cells vH_sorts vH_next vW_inFront vH_sizes vH_width)) (kRunV (As := []) (rest := []) ⟨hx, hb, hml, hown, ht0⟩ (kX4_stands l D cy _ aH qH vH r4 hc4 _ rfl) (cwV 0 ht0 (gV wd577 wd462 wd463 wd9 wd464) rfl rfl rfl (by decide +kernel) ⟨Nat.le_of_ble_eq_true rfl, Nat.le_of_ble_eq_true rfl⟩) hK hN hP hD [1] rfl (by decide) 1 3 rfl rfl rfl hl.1 rfl (Nat.le_of_ble_eq_true rfl) dX8_blocked_4 ⟨Nat.zero_le _, Nat.zero_le _⟩) hP hD hS hA [1] [0, 2, 3, 4, 5, 6, 7, 8, 9, 10, 11, 12] rfl rfl (by decide) (by decide) [0, 12, 1, 2, 3, 4, 5, 6, 7, 8, 9, 10, 11] (by decide) rfl rfl (fun H locs hP hD hS => ?_)
  refine lv_if_ne (tgt := 16) hx hb dX8_blocked_7 (by decide) (fun c7 => ?_) (fun c7 => ?_)
  · have hok := k_neg c7 hok
    refine lv_aload_n hx hb dX8_blocked_16 rfl (lv_at hl 0 rfl) ?_
    refine va_get (D := D) (ci := 7) (v := .ref (qN 2)) (C := RX8) (T := TX8) (N := 9) hx hb ht0 niX8 hown hK hP 0 rfl rfl 2 (by decide) (ht0 _ wd578) (fun _ h9 => h9) rfl dX8_blocked_17 ?_
    refine lv_aload_n hx hb dX8_blocked_20 rfl (lv_at hl 0 rfl) ?_
    refine va_get (D := D) (ci := 7) (v := .ref aH) (C := RX8) (T := TX8) (N := 9) hx hb ht0 niX8 hown hK hP 0 rfl rfl 5 (by decide) (ht0 _ wd522) (fun _ h9 => h9) rfl dX8_blocked_21 ?_
    refine lv_aload_n hx hb dX8_blocked_24 rfl (lv_at hl 0 rfl) ?_
    refine va_get (D := D) (ci := 7) (v := .ref (qN 1)) (C := RX8) (T := TX8) (N := 9) hx hb ht0 niX8 hown hK hP 0 rfl rfl 1 (by decide) (ht0 _ wd527) (fun _ h9 => h9) rfl dX8_blocked_25 ?_
    refine lv_iconst (v := 0) hx hb dX8_blocked_28 (by decide) ?_
    obtain ⟨⟨vW_29, vW_who_29, vW_cells_29⟩, hc29, hok⟩ := k_bind hok
    try dsimp only at hok
    refine kCv (wc := (wX6_start cy (qN 2) aH (qN 1) qW aH0 qD qH aH0 vW vD vD_now vW_who vH vH_kinds vW_cells vH_sorts)) (wc2 := (wX6_start cy (qN 2) aH (qN 1) qW aH0 qD qH aH vW_29 vD vD_now vW_who_29 vH vH_kinds vW_cells_29 vH_sorts)) (wr := [(aN, oX8 vN qN aH), (qH 10, rI cy 36 vH_next), (qW 2, rI cy 7 vW_inFront), (qH 15, rI cy 7 vH_sizes), (qH 11, rI cy 36 vH_width)]) (ws2 := (wX8_blocked cy aN qN aH qH qW aH0 qD aH aH vN vH vW_29 vD vD_now vW_who_29 vH_kinds vW_cells_29 vH_sorts vH_next vW_inFront vH_sizes vH_width)) (kRunV (As := [.ref aH, .ref (qN 1), .int 0]) (rest := []) ⟨hx, hb, hml, hown, ht0⟩ (kX6_start l D cy _ (qN 2) aH (qN 1) qW aH0 qD qH vW vD vD_now vW_who vH vH_kinds vW_cells vH_sorts (0 : Int32) vW_29 vW_who_29 vW_cells_29 hc29 _ rfl) (cwV 3 ht0 (gV wd579 wd181 wd182 wd114 wd183) rfl rfl rfl (by decide +kernel) ⟨Nat.le_of_ble_eq_true rfl, Nat.le_of_ble_eq_true rfl⟩) hK hN hP hD [2, 3, 4, 5, 1, 6, 7, 8] rfl (by decide) 2 5 rfl rfl rfl hl.1 rfl (Nat.le_of_ble_eq_true rfl) dX8_blocked_29 ⟨Nat.zero_le _, Nat.zero_le _⟩) hP hD hS hA [2, 3, 4, 5, 1, 6, 7, 8] [0, 9, 10, 11, 12] rfl rfl (by decide) (by decide) [0, 9, 5, 6, 7, 8, 10, 11, 12, 1, 2, 3, 4] (by decide) rfl rfl (fun H locs hP hD hS => ?_)
    refine lv_aload_n hx hb dX8_blocked_32 rfl (lv_at hl 0 rfl) ?_
    refine va_get (D := D) (ci := 7) (v := .ref (qN 2)) (C := RX8) (T := TX8) (N := 9) hx hb ht0 niX8 hown hK hP 0 rfl rfl 2 (by decide) (ht0 _ wd578) (fun _ h9 => h9) rfl dX8_blocked_33 ?_
    refine lv_iconst (v := 0) hx hb dX8_blocked_36 (by decide) ?_
    obtain ⟨⟨vW_37, vW_inFront_37⟩, hc37, hok⟩ := k_bind hok
    try dsimp only at hok
    refine kCv (wc := (wX6_decide cy (qN 2) qW aH qH aH vW_29 vH vW_cells_29 vH_next vW_who_29 vW_inFront vH_sizes vH_width vH_kinds)) (wc2 := (wX6_decide cy (qN 2) qW aH qH aH vW_37 vH vW_cells_29 vH_next vW_who_29 vW_inFront_37 vH_sizes vH_width vH_kinds)) (wr := [(aN, oX8 vN qN aH), (qN 1, oX1 vD qD), (qD 0, rI cy 9 vD_now), (qH 8, rI cy 4 vH_sorts)]) (ws2 := (wX8_blocked cy aN qN aH qH qW aH0 qD aH aH vN vH vW_37 vD vD_now vW_who_29 vH_kinds vW_cells_29 vH_sorts vH_next vW_inFront_37 vH_sizes vH_width)) (kRunV (As := [.int 0]) (rest := []) ⟨hx, hb, hml, hown, ht0⟩ (kX6_decide l D cy _ (qN 2) qW aH qH vW_29 vH vW_cells_29 vH_next vW_who_29 vW_inFront vH_sizes vH_width vH_kinds (0 : Int32) vW_37 vW_inFront_37 hc37 _ rfl) (cwV 1 ht0 (gV wd580 wd151 wd152 wd114 wd153) rfl rfl rfl (by decide +kernel) ⟨Nat.le_of_ble_eq_true rfl, Nat.le_of_ble_eq_true rfl⟩) hK hN hP hD [2, 1, 7, 9, 5, 10, 11, 12, 6] rfl (by decide) 2 5 rfl rfl rfl hl.1 rfl (Nat.le_of_ble_eq_true rfl) dX8_blocked_37 ⟨Nat.zero_le _, Nat.zero_le _⟩) hP hD hS hA [2, 1, 7, 9, 5, 10, 11, 12, 6] [0, 3, 4, 8] rfl rfl (by decide) (by decide) [0, 5, 4, 1, 2, 8, 12, 6, 3, 7, 9, 10, 11] (by decide) rfl rfl (fun H locs hP hD hS => ?_)
    refine lv_aload_n hx hb dX8_blocked_40 rfl (lv_at hl 0 rfl) ?_
    refine lv_aload_n hx hb dX8_blocked_41 rfl (lv_at hl 0 rfl) ?_
    refine va_get (D := D) (ci := 7) (v := .ref (qN 2)) (C := RX8) (T := TX8) (N := 9) hx hb ht0 niX8 hown hK hP 0 rfl rfl 2 (by decide) (ht0 _ wd578) (fun _ h9 => h9) rfl dX8_blocked_42 ?_
    obtain ⟨r45, hc45, hok⟩ := k_bind hok
    refine kCi (wc := (wX6_stuck cy (qN 2) qW aH qH aH vW_37 vH)) (wc2 := (wX6_stuck cy (qN 2) qW aH qH aH vW_37 vH)) (wr := [(aN, oX8 vN qN aH), (qN 1, oX1 vD qD), (qD 0, rI cy 9 vD_now), (qW 1, rI cy 36 vW_who_29), (qH 14, rI cy 7 vH_kinds), (qW 0, rI cy 7 vW_cells_29), (qH 8, rI cy 4 vH_sorts), (qH 10, rI cy 36 vH_next), (qW 2, rI cy 7 vW_inFront_37), (qH 15, rI cy 7 vH_sizes), (qH 11, rI cy 36 vH_width)]) (ws2 := (wX8_blocked cy aN qN aH qH qW aH0 qD aH aH vN vH vW_37 vD vD_now vW_who_29 vH_kinds vW_cells_29 vH_sorts vH_next vW_inFront_37 vH_sizes vH_width)) (kRunV (As := []) (rest := [.ref aN]) ⟨hx, hb, hml, hown, ht0⟩ (kX6_stuck l D cy _ (qN 2) qW aH qH vW_37 vH r45 hc45 _ rfl) (cwV 0 ht0 (gV wd585 wd586 wd587 wd114 wd588) rfl rfl rfl (by decide +kernel) ⟨Nat.le_of_ble_eq_true rfl, Nat.le_of_ble_eq_true rfl⟩) hK hN hP hD [2, 1] rfl (by decide) 2 5 rfl rfl rfl hl.1 rfl (Nat.le_of_ble_eq_true rfl) dX8_blocked_45 ⟨Nat.zero_le _, Nat.zero_le _⟩) hP hD hS hA [2, 1] [0, 3, 4, 5, 6, 7, 8, 9, 10, 11, 12] rfl rfl (by decide) (by decide) [0, 12, 11, 1, 2, 3, 4, 5, 6, 7, 8, 9, 10] (by decide) rfl rfl (fun H locs hP hD hS => ?_)
    obtain ⟨⟨r48, vN_48⟩, hc48, hok⟩ := k_bind hok
    try dsimp only at hok
    refine kCi (wc := (wX8_answer cy aN qN aH aH vN)) (wc2 := (wX8_answer cy aN qN aH aH vN_48)) (wr := [(aH, oX4 vH qH), (qN 2, oX6 vW_37 qW aH), (qN 1, oX1 vD qD), (qD 0, rI cy 9 vD_now), (qW 1, rI cy 36 vW_who_29), (qH 14, rI cy 7 vH_kinds), (qW 0, rI cy 7 vW_cells_29), (qH 8, rI cy 4 vH_sorts), (qH 10, rI cy 36 vH_next), (qW 2, rI cy 7 vW_inFront_37), (qH 15, rI cy 7 vH_sizes), (qH 11, rI cy 36 vH_width)]) (ws2 := (wX8_blocked cy aN qN aH qH qW aH0 qD aH aH vN_48 vH vW_37 vD vD_now vW_who_29 vH_kinds vW_cells_29 vH_sorts vH_next vW_inFront_37 vH_sizes vH_width)) (kRunV (As := [.int r45]) (rest := []) ⟨hx, hb, hml, hown, ht0⟩ (kX8_answer l D cy _ aN qN aH vN r45 r48 vN_48 hc48 _ rfl) (cwV 1 ht0 (gV wd538 wd539 wd540 wd57 wd541) rfl rfl rfl (by decide +kernel) ⟨Nat.le_of_ble_eq_true rfl, Nat.le_of_ble_eq_true rfl⟩) hK hN hP hD [0] rfl (by decide) 0 7 rfl rfl rfl hl.1 rfl (Nat.le_of_ble_eq_true rfl) dX8_blocked_48 ⟨Nat.zero_le _, Nat.zero_le _⟩) hP hD hS hA [0] [1, 2, 3, 4, 5, 6, 7, 8, 9, 10, 11, 12] rfl rfl (by decide) (by decide) [12, 0, 1, 2, 3, 4, 5, 6, 7, 8, 9, 10, 11] (by decide) rfl rfl (fun H locs hP hD hS => ?_)
    cases hok
    exact W.iret hx hb hr (fun t ht hW => ⟨⟨_, (), rfl, rfl, by rw [ht]; exact hP, va_K.moved hW.alike hK, hD⟩, hS.F ht⟩) hS.2.2 dX8_blocked_51
  · have hok := k_pos c7 hok
    refine lv_aload_n hx hb dX8_blocked_10 rfl (lv_at hl 0 rfl) ?_
    refine lv_iconst (v := 1) hx hb dX8_blocked_11 (by decide) ?_
    obtain ⟨⟨r12, vN_12⟩, hc12, hok⟩ := k_bind hok
    try dsimp only at hok
    refine kCi (wc := (wX8_refuse cy aN qN aH aH vN)) (wc2 := (wX8_refuse cy aN qN aH aH vN_12)) (wr := [(aH, oX4 vH qH), (qN 2, oX6 vW qW aH0), (qN 1, oX1 vD qD), (qD 0, rI cy 9 vD_now), (qW 1, rI cy 36 vW_who), (qH 14, rI cy 7 vH_kinds), (qW 0, rI cy 7 vW_cells), (qH 8, rI cy 4 vH_sorts), (qH 10, rI cy 36 vH_next), (qW 2, rI cy 7 vW_inFront), (qH 15, rI cy 7 vH_sizes), (qH 11, rI cy 36 vH_width)]) (ws2 := (wX8_blocked cy aN qN aH qH qW aH0 qD aH aH0 vN_12 vH vW vD vD_now vW_who vH_kinds vW_cells vH_sorts vH_next vW_inFront vH_sizes vH_width)) (kRunV (As := [.int 1]) (rest := []) ⟨hx, hb, hml, hown, ht0⟩ (kX8_refuse l D cy _ aN qN aH vN (1 : Int32) r12 vN_12 hc12 _ rfl) (cwV 1 ht0 (gV wd504 wd505 wd506 wd57 wd507) rfl rfl rfl (by decide +kernel) ⟨Nat.le_of_ble_eq_true rfl, Nat.le_of_ble_eq_true rfl⟩) hK hN hP hD [0] rfl (by decide) 0 7 rfl rfl rfl hl.1 rfl (Nat.le_of_ble_eq_true rfl) dX8_blocked_12 ⟨Nat.zero_le _, Nat.zero_le _⟩) hP hD hS hA [0] [1, 2, 3, 4, 5, 6, 7, 8, 9, 10, 11, 12] rfl rfl (by decide) (by decide) [12, 0, 1, 2, 3, 4, 5, 6, 7, 8, 9, 10, 11] (by decide) rfl rfl (fun H locs hP hD hS => ?_)
    cases hok
    exact W.iret hx hb hr (fun t ht hW => ⟨⟨_, (), rfl, rfl, by rw [ht]; exact hP, va_K.moved hW.alike hK, hD⟩, hS.F ht⟩) hS.2.2 dX8_blocked_15
def wsX8_meeting : List Cond := .code yX8_meeting cX8_meeting 1 (some .int) :: W0
abbrev wX8_meeting (cy : Nat → ClassId) (aN : Nat) (qN : Nat → Nat) (aH : Nat) (qH : Nat → Nat) (qW : Nat → Nat) (aH0 : Nat) (qD : Nat → Nat) (fvN_5 : Nat) (fvW_4 : Nat) (vN : Nat → Int32) (vH : Nat → Int32) (vW : Nat → Int32) (vD : Nat → Int32) (vD_now : Nat → Int32) (vW_who : Nat → Int32) (vH_kinds : Nat → Int32) (vW_cells : Nat → Int32) (vH_sorts : Nat → Int32) (vH_doorOne : Nat → Int32) (vH_doorTwo : Nat → Int32) : va_W := [(aN, oX8 vN qN fvN_5), (aH, oX4 vH qH), (qN 2, oX6 vW qW fvW_4), (qN 1, oX1 vD qD), (qD 0, rI cy 9 vD_now), (qW 1, rI cy 36 vW_who), (qH 14, rI cy 7 vH_kinds), (qW 0, rI cy 7 vW_cells), (qH 8, rI cy 4 vH_sorts), (qH 12, rI cy 5 vH_doorOne), (qH 13, rI cy 5 vH_doorTwo)]
set_option maxHeartbeats 4000000 in
set_option maxRecDepth 100000 in
theorem kX8_meeting (l : Launch) (D : va_G) (cy : Nat → ClassId) (sz : Nat) (aN : Nat) (qN : Nat → Nat) (aH : Nat) (qH : Nat → Nat) (qW : Nat → Nat) (aH0 : Nat) (qD : Nat → Nat) (vN : Nat → Int32) (vH : Nat → Int32) (vW : Nat → Int32) (vD : Nat → Int32) (vD_now : Nat → Int32) (vW_who : Nat → Int32) (vH_kinds : Nat → Int32) (vW_cells : Nat → Int32) (vH_sorts : Nat → Int32) (vH_doorOne : Nat → Int32) (vH_doorTwo : Nat → Int32) (zr : Int32) (z_vN : Nat → Int32) (z_vW : Nat → Int32) (z_vW_who : Nat → Int32) (z_vW_cells : Nat → Int32) (z_aH0 : Nat) (hok : fX8_meeting aH aH0 vN vH vW vD vD_now vW_who vH_kinds vW_cells vH_sorts vH_doorOne vH_doorTwo = some (zr, z_vN, z_vW, z_vW_who, z_vW_cells, z_aH0)) (A : Nat → Prop) (hAe : va_A (wX8_meeting cy aN qN aH qH qW aH0 qD aH aH0 vN vH vW vD vD_now vW_who vH_kinds vW_cells vH_sorts vH_doorOne vH_doorTwo) sz = A) : Met l yX8_meeting wsX8_meeting ({ frames := 3, cells := 0, slots := 0, locals := 68 } : Room) (kPre D cy [.ref aN] (wX8_meeting cy aN qN aH qH qW aH0 qD aH aH0 vN vH vW vD vD_now vW_who vH_kinds vW_cells vH_sorts vH_doorOne vH_doorTwo) sz) (kQi D cy zr A (wX8_meeting cy aN qN aH qH qW aH0 qD aH z_aH0 z_vN vH z_vW vD vD_now z_vW_who vH_kinds z_vW_cells vH_sorts vH_doorOne vH_doorTwo)) 0 0 A := by
  refine Met.ofW (cc := cX8_meeting) (maxL := 1) (ret := (some .int)) (by decide) rfl ?_
  intro p e s m args below meth c s₁ B hml hv
  obtain ⟨rfl, hsz, hP, hK, hD0, hN⟩ := hv
  have hx := B.exec
  have hb := B.bytes
  have hr := B.returns
  have ht0 : ∀ w ∈ W0, w.before _ s = true := fun w h => atoms_spec (ws := wsX8_meeting) B.pre w (List.mem_cons_of_mem _ h)
  have hown : s.vm.findClass RX8 = some m.cls := findClass_of_methodNamed B.named
  have hlocks := B.notSynchronized
  subst hsz
  have hD : va_D A (wX8_meeting cy aN qN aH qH qW aH0 qD aH aH0 vN vH vW vD vD_now vW_who vH_kinds vW_cells vH_sorts vH_doorOne vH_doorTwo) := by rw [← hAe]; exact hD0.self
  have hA : ∀ q : Nat, s.heap.size ≤ q → A q := fun q h => by rw [← hAe]; exact Or.inr h
  have hS : va_S A s.heap s.heap [] := va_S.rf
  have hl := lv_entry ([.ref aN]) (n := 1) (Nat.le_of_ble_eq_true rfl)
  rw [lg_entry_eq]
  generalize (lg_sl ([.ref aN]) ++ List.replicate (1 - (lg_sl ([.ref aN])).length) Slot.unset).toArray = ls at hl ⊢
  have hl : lv_has ls 1 [(0, .ref aN)] := hl
  unfold fX8_meeting at hok
  obtain ⟨H, hH⟩ : ∃ H, H = s.heap := ⟨_, rfl⟩
  obtain ⟨locs, hlc⟩ : ∃ x : List Loc, x = [] := ⟨_, rfl⟩
  have hP : va_P D vwCl (wX8_meeting cy aN qN aH qH qW aH0 qD aH aH0 vN vH vW vD vD_now vW_who vH_kinds vW_cells vH_sorts vH_doorOne vH_doorTwo) H := by rw [hH]; exact hP
  have hS : va_S A s.heap H locs := by rw [hH, hlc]; exact hS
  rw [show W p l e _ s m _ below meth c s.heap [] = W p l e _ s m _ below meth c H locs from by rw [hH, hlc]]
  refine lv_aload_n hx hb dX8_meeting_0 rfl (lv_at hl 0 rfl) ?_
  refine va_get (D := D) (ci := 7) (v := .ref aH) (C := RX8) (T := TX8) (N := 9) hx hb ht0 niX8 hown hK hP 0 rfl rfl 5 (by decide) (ht0 _ wd522) (fun _ h9 => h9) rfl dX8_meeting_1 ?_
  obtain ⟨r4, hc4, hok⟩ := k_bind hok
  refine kCi (wc := (wX4_stands cy aH qH vH)) (wc2 := (wX4_stands cy aH qH vH)) (wr := [(aN, oX8 vN qN aH), (qN 2, oX6 vW qW aH0), (qN 1, oX1 vD qD), (qD 0, rI cy 9 vD_now), (qW 1, rI cy 36 vW_who), (qH 14, rI cy 7 vH_kinds), (qW 0, rI cy 7 vW_cells), (qH 8, rI cy 4 vH_sorts), (qH 12, rI cy 5 vH_doorOne), (qH 13, rI cy 5 vH_doorTwo)]) (ws2 := (wX8_meeting cy aN qN aH qH qW aH0 qD aH aH0 vN vH vW vD vD_now vW_who vH_kinds vW_cells vH_sorts vH_doorOne vH_doorTwo)) (kRunV (As := []) (rest := []) ⟨hx, hb, hml, hown, ht0⟩ (kX4_stands l D cy _ aH qH vH r4 hc4 _ rfl) (cwV 0 ht0 (gV wd577 wd462 wd463 wd9 wd464) rfl rfl rfl (by decide +kernel) ⟨Nat.le_of_ble_eq_true rfl, Nat.le_of_ble_eq_true rfl⟩) hK hN hP hD [1] rfl (by decide) 1 3 rfl rfl rfl hl.1 rfl (Nat.le_of_ble_eq_true rfl) dX8_meeting_4 ⟨Nat.zero_le _, Nat.zero_le _⟩) hP hD hS hA [1] [0, 2, 3, 4, 5, 6, 7, 8, 9, 10] rfl rfl (by decide) (by decide) [0, 10, 1, 2, 3, 4, 5, 6, 7, 8, 9] (by decide) rfl rfl (fun H locs hP hD hS => ?_)
  refine lv_if_ne (tgt := 16) hx hb dX8_meeting_7 (by decide) (fun c7 => ?_) (fun c7 => ?_)
  · have hok := k_neg c7 hok
    refine lv_aload_n hx hb dX8_meeting_16 rfl (lv_at hl 0 rfl) ?_
    refine va_get (D := D) (ci := 7) (v := .ref (qN 2)) (C := RX8) (T := TX8) (N := 9) hx hb ht0 niX8 hown hK hP 0 rfl rfl 2 (by decide) (ht0 _ wd578) (fun _ h9 => h9) rfl dX8_meeting_17 ?_
    refine lv_aload_n hx hb dX8_meeting_20 rfl (lv_at hl 0 rfl) ?_
    refine va_get (D := D) (ci := 7) (v := .ref aH) (C := RX8) (T := TX8) (N := 9) hx hb ht0 niX8 hown hK hP 0 rfl rfl 5 (by decide) (ht0 _ wd522) (fun _ h9 => h9) rfl dX8_meeting_21 ?_
    refine lv_aload_n hx hb dX8_meeting_24 rfl (lv_at hl 0 rfl) ?_
    refine va_get (D := D) (ci := 7) (v := .ref (qN 1)) (C := RX8) (T := TX8) (N := 9) hx hb ht0 niX8 hown hK hP 0 rfl rfl 1 (by decide) (ht0 _ wd527) (fun _ h9 => h9) rfl dX8_meeting_25 ?_
    refine lv_iconst (v := 0) hx hb dX8_meeting_28 (by decide) ?_
    obtain ⟨⟨vW_29, vW_who_29, vW_cells_29⟩, hc29, hok⟩ := k_bind hok
    try dsimp only at hok
    refine kCv (wc := (wX6_start cy (qN 2) aH (qN 1) qW aH0 qD qH aH0 vW vD vD_now vW_who vH vH_kinds vW_cells vH_sorts)) (wc2 := (wX6_start cy (qN 2) aH (qN 1) qW aH0 qD qH aH vW_29 vD vD_now vW_who_29 vH vH_kinds vW_cells_29 vH_sorts)) (wr := [(aN, oX8 vN qN aH), (qH 12, rI cy 5 vH_doorOne), (qH 13, rI cy 5 vH_doorTwo)]) (ws2 := (wX8_meeting cy aN qN aH qH qW aH0 qD aH aH vN vH vW_29 vD vD_now vW_who_29 vH_kinds vW_cells_29 vH_sorts vH_doorOne vH_doorTwo)) (kRunV (As := [.ref aH, .ref (qN 1), .int 0]) (rest := []) ⟨hx, hb, hml, hown, ht0⟩ (kX6_start l D cy _ (qN 2) aH (qN 1) qW aH0 qD qH vW vD vD_now vW_who vH vH_kinds vW_cells vH_sorts (0 : Int32) vW_29 vW_who_29 vW_cells_29 hc29 _ rfl) (cwV 3 ht0 (gV wd579 wd181 wd182 wd114 wd183) rfl rfl rfl (by decide +kernel) ⟨Nat.le_of_ble_eq_true rfl, Nat.le_of_ble_eq_true rfl⟩) hK hN hP hD [2, 3, 4, 5, 1, 6, 7, 8] rfl (by decide) 2 5 rfl rfl rfl hl.1 rfl (Nat.le_of_ble_eq_true rfl) dX8_meeting_29 ⟨Nat.zero_le _, Nat.zero_le _⟩) hP hD hS hA [2, 3, 4, 5, 1, 6, 7, 8] [0, 9, 10] rfl rfl (by decide) (by decide) [0, 7, 3, 4, 5, 6, 8, 9, 10, 1, 2] (by decide) rfl rfl (fun H locs hP hD hS => ?_)
    refine lv_aload_n hx hb dX8_meeting_32 rfl (lv_at hl 0 rfl) ?_
    refine lv_aload_n hx hb dX8_meeting_33 rfl (lv_at hl 0 rfl) ?_
    refine va_get (D := D) (ci := 7) (v := .ref (qN 2)) (C := RX8) (T := TX8) (N := 9) hx hb ht0 niX8 hown hK hP 0 rfl rfl 2 (by decide) (ht0 _ wd578) (fun _ h9 => h9) rfl dX8_meeting_34 ?_
    obtain ⟨r37, hc37, hok⟩ := k_bind hok
    refine kCi (wc := (wX6_firstPair cy (qN 2) qW aH qH aH vW_29 vH vH_doorOne vH_doorTwo vW_who_29)) (wc2 := (wX6_firstPair cy (qN 2) qW aH qH aH vW_29 vH vH_doorOne vH_doorTwo vW_who_29)) (wr := [(aN, oX8 vN qN aH), (qN 1, oX1 vD qD), (qD 0, rI cy 9 vD_now), (qH 14, rI cy 7 vH_kinds), (qW 0, rI cy 7 vW_cells_29), (qH 8, rI cy 4 vH_sorts)]) (ws2 := (wX8_meeting cy aN qN aH qH qW aH0 qD aH aH vN vH vW_29 vD vD_now vW_who_29 vH_kinds vW_cells_29 vH_sorts vH_doorOne vH_doorTwo)) (kRunV (As := []) (rest := [.ref aN]) ⟨hx, hb, hml, hown, ht0⟩ (kX6_firstPair l D cy _ (qN 2) qW aH qH vW_29 vH vH_doorOne vH_doorTwo vW_who_29 r37 hc37 _ rfl) (cwV 0 ht0 (gV wd589 wd590 wd591 wd114 wd592) rfl rfl rfl (by decide +kernel) ⟨Nat.le_of_ble_eq_true rfl, Nat.le_of_ble_eq_true rfl⟩) hK hN hP hD [2, 1, 9, 10, 5] rfl (by decide) 2 5 rfl rfl rfl hl.1 rfl (Nat.le_of_ble_eq_true rfl) dX8_meeting_37 ⟨Nat.zero_le _, Nat.zero_le _⟩) hP hD hS hA [2, 1, 9, 10, 5] [0, 3, 4, 6, 7, 8] rfl rfl (by decide) (by decide) [0, 7, 6, 1, 2, 10, 3, 4, 5, 8, 9] (by decide) rfl rfl (fun H locs hP hD hS => ?_)
    obtain ⟨⟨r40, vN_40⟩, hc40, hok⟩ := k_bind hok
    try dsimp only at hok
    refine kCi (wc := (wX8_answer cy aN qN aH aH vN)) (wc2 := (wX8_answer cy aN qN aH aH vN_40)) (wr := [(aH, oX4 vH qH), (qN 2, oX6 vW_29 qW aH), (qN 1, oX1 vD qD), (qD 0, rI cy 9 vD_now), (qW 1, rI cy 36 vW_who_29), (qH 14, rI cy 7 vH_kinds), (qW 0, rI cy 7 vW_cells_29), (qH 8, rI cy 4 vH_sorts), (qH 12, rI cy 5 vH_doorOne), (qH 13, rI cy 5 vH_doorTwo)]) (ws2 := (wX8_meeting cy aN qN aH qH qW aH0 qD aH aH vN_40 vH vW_29 vD vD_now vW_who_29 vH_kinds vW_cells_29 vH_sorts vH_doorOne vH_doorTwo)) (kRunV (As := [.int r37]) (rest := []) ⟨hx, hb, hml, hown, ht0⟩ (kX8_answer l D cy _ aN qN aH vN r37 r40 vN_40 hc40 _ rfl) (cwV 1 ht0 (gV wd538 wd539 wd540 wd57 wd541) rfl rfl rfl (by decide +kernel) ⟨Nat.le_of_ble_eq_true rfl, Nat.le_of_ble_eq_true rfl⟩) hK hN hP hD [0] rfl (by decide) 0 7 rfl rfl rfl hl.1 rfl (Nat.le_of_ble_eq_true rfl) dX8_meeting_40 ⟨Nat.zero_le _, Nat.zero_le _⟩) hP hD hS hA [0] [1, 2, 3, 4, 5, 6, 7, 8, 9, 10] rfl rfl (by decide) (by decide) [10, 0, 1, 2, 3, 4, 5, 6, 7, 8, 9] (by decide) rfl rfl (fun H locs hP hD hS => ?_)
    cases hok
    exact W.iret hx hb hr (fun t ht hW => ⟨⟨_, (), rfl, rfl, by rw [ht]; exact hP, va_K.moved hW.alike hK, hD⟩, hS.F ht⟩) hS.2.2 dX8_meeting_43
  · have hok := k_pos c7 hok
    refine lv_aload_n hx hb dX8_meeting_10 rfl (lv_at hl 0 rfl) ?_
    refine lv_iconst (v := 1) hx hb dX8_meeting_11 (by decide) ?_
    obtain ⟨⟨r12, vN_12⟩, hc12, hok⟩ := k_bind hok
    try dsimp only at hok
    refine kCi (wc := (wX8_refuse cy aN qN aH aH vN)) (wc2 := (wX8_refuse cy aN qN aH aH vN_12)) (wr := [(aH, oX4 vH qH), (qN 2, oX6 vW qW aH0), (qN 1, oX1 vD qD), (qD 0, rI cy 9 vD_now), (qW 1, rI cy 36 vW_who), (qH 14, rI cy 7 vH_kinds), (qW 0, rI cy 7 vW_cells), (qH 8, rI cy 4 vH_sorts), (qH 12, rI cy 5 vH_doorOne), (qH 13, rI cy 5 vH_doorTwo)]) (ws2 := (wX8_meeting cy aN qN aH qH qW aH0 qD aH aH0 vN_12 vH vW vD vD_now vW_who vH_kinds vW_cells vH_sorts vH_doorOne vH_doorTwo)) (kRunV (As := [.int 1]) (rest := []) ⟨hx, hb, hml, hown, ht0⟩ (kX8_refuse l D cy _ aN qN aH vN (1 : Int32) r12 vN_12 hc12 _ rfl) (cwV 1 ht0 (gV wd504 wd505 wd506 wd57 wd507) rfl rfl rfl (by decide +kernel) ⟨Nat.le_of_ble_eq_true rfl, Nat.le_of_ble_eq_true rfl⟩) hK hN hP hD [0] rfl (by decide) 0 7 rfl rfl rfl hl.1 rfl (Nat.le_of_ble_eq_true rfl) dX8_meeting_12 ⟨Nat.zero_le _, Nat.zero_le _⟩) hP hD hS hA [0] [1, 2, 3, 4, 5, 6, 7, 8, 9, 10] rfl rfl (by decide) (by decide) [10, 0, 1, 2, 3, 4, 5, 6, 7, 8, 9] (by decide) rfl rfl (fun H locs hP hD hS => ?_)
    cases hok
    exact W.iret hx hb hr (fun t ht hW => ⟨⟨_, (), rfl, rfl, by rw [ht]; exact hP, va_K.moved hW.alike hK, hD⟩, hS.F ht⟩) hS.2.2 dX8_meeting_15
def wsX8_tenfold : List Cond := .code yX8_tenfold cX8_tenfold 1 (some .int) :: W0
abbrev wX8_tenfold (cy : Nat → ClassId)  : va_W := []
set_option maxHeartbeats 4000000 in
set_option maxRecDepth 100000 in
theorem kX8_tenfold (l : Launch) (D : va_G) (cy : Nat → ClassId) (sz : Nat) (x0 : Int32) (zr : Int32) (hok : fX8_tenfold x0 = some zr) (A : Nat → Prop) (hAe : va_A (wX8_tenfold cy ) sz = A) : Met l yX8_tenfold wsX8_tenfold ({ frames := 1, cells := 0, slots := 0, locals := 20 } : Room) (kPre D cy [.int x0] (wX8_tenfold cy ) sz) (kQi D cy zr A (wX8_tenfold cy )) 0 0 A := by
  refine Met.ofW (cc := cX8_tenfold) (maxL := 1) (ret := (some .int)) (by decide) rfl ?_
  intro p e s m args below meth c s₁ B hml hv
  obtain ⟨rfl, hsz, hP, hK, hD0, hN⟩ := hv
  have hx := B.exec
  have hb := B.bytes
  have hr := B.returns
  have ht0 : ∀ w ∈ W0, w.before _ s = true := fun w h => atoms_spec (ws := wsX8_tenfold) B.pre w (List.mem_cons_of_mem _ h)
  have hown : s.vm.findClass RX8 = some m.cls := findClass_of_methodNamed B.named
  have hlocks := B.notSynchronized
  subst hsz
  have hD : va_D A (wX8_tenfold cy ) := by rw [← hAe]; exact hD0.self
  have hA : ∀ q : Nat, s.heap.size ≤ q → A q := fun q h => by rw [← hAe]; exact Or.inr h
  have hS : va_S A s.heap s.heap [] := va_S.rf
  have hl := lv_entry ([.int x0]) (n := 1) (Nat.le_of_ble_eq_true rfl)
  rw [lg_entry_eq]
  generalize (lg_sl ([.int x0]) ++ List.replicate (1 - (lg_sl ([.int x0])).length) Slot.unset).toArray = ls at hl ⊢
  have hl : lv_has ls 1 [(0, .int x0)] := hl
  unfold fX8_tenfold at hok
  obtain ⟨H, hH⟩ : ∃ H, H = s.heap := ⟨_, rfl⟩
  obtain ⟨locs, hlc⟩ : ∃ x : List Loc, x = [] := ⟨_, rfl⟩
  have hP : va_P D vwCl (wX8_tenfold cy ) H := by rw [hH]; exact hP
  have hS : va_S A s.heap H locs := by rw [hH, hlc]; exact hS
  rw [show W p l e _ s m _ below meth c s.heap [] = W p l e _ s m _ below meth c H locs from by rw [hH, hlc]]
  refine lv_bipush (v := 10) hx hb dX8_tenfold_0 (by decide) ?_
  refine lv_iload_n hx hb dX8_tenfold_2 rfl (lv_at hl 0 rfl) ?_
  obtain ⟨r3, hc3, hok⟩ := k_bind hok
  refine kCi (wc := (wX8_ringOfCell cy )) (wc2 := (wX8_ringOfCell cy )) (wr := []) (ws2 := (wX8_tenfold cy )) (kRunS (As := [.int x0]) (rest := [.int 10]) ⟨hx, hb, hml, hown, ht0⟩ (kX8_ringOfCell l D cy _ x0 r3 hc3 _ rfl) (va_cwS 1 ht0 (gS wd557 wd58 wd57 wd56) rfl rfl rfl (by decide +kernel) ⟨Nat.le_of_ble_eq_true rfl, Nat.le_of_ble_eq_true rfl⟩) hK hN hP hD [] rfl (by decide) rfl hl.1 rfl (Nat.le_of_ble_eq_true rfl) dX8_tenfold_3 ⟨Nat.zero_le _, Nat.zero_le _⟩) hP hD hS hA [] [] rfl rfl (by decide) (by decide) [] (by decide) rfl rfl (fun H locs hP hD hS => ?_)
  refine lv_imul hx hb dX8_tenfold_6 ?_
  refine lv_iload_n hx hb dX8_tenfold_7 rfl (lv_at hl 0 rfl) ?_
  obtain ⟨r8, hc8, hok⟩ := k_bind hok
  refine kCi (wc := (wX8_placeOfCell cy )) (wc2 := (wX8_placeOfCell cy )) (wr := []) (ws2 := (wX8_tenfold cy )) (kRunS (As := [.int x0]) (rest := [.int ((10 : Int32) * r3)]) ⟨hx, hb, hml, hown, ht0⟩ (kX8_placeOfCell l D cy _ x0 r8 hc8 _ rfl) (va_cwS 1 ht0 (gS wd558 wd559 wd57 wd560) rfl rfl rfl (by decide +kernel) ⟨Nat.le_of_ble_eq_true rfl, Nat.le_of_ble_eq_true rfl⟩) hK hN hP hD [] rfl (by decide) rfl hl.1 rfl (Nat.le_of_ble_eq_true rfl) dX8_tenfold_8 ⟨Nat.zero_le _, Nat.zero_le _⟩) hP hD hS hA [] [] rfl rfl (by decide) (by decide) [] (by decide) rfl rfl (fun H locs hP hD hS => ?_)
  refine lv_iadd hx hb dX8_tenfold_11 ?_
  cases hok
  exact W.iret hx hb hr (fun t ht hW => ⟨⟨_, (), rfl, rfl, by rw [ht]; exact hP, va_K.moved hW.alike hK, hD⟩, hS.F ht⟩) hS.2.2 dX8_tenfold_12
