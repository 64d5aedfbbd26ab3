def wsX5_readThing : List Cond := .code yX5_readThing cX5_readThing 7 (some .boolean) :: W0
abbrev wX5_readThing (cy : Nat → ClassId) (aR : Nat) (qR : Nat → Nat) (aH : Nat) (qH : Nat → Nat) (fvR_2 : Nat) (vR_j11 : Int64) (vR : Nat → Int32) (vR_tape : Nat → Int32) (vH : Nat → Int32) (vR_ringNames : Nat → Int64) (vR_thingNames : Nat → Int64) (vH_places : Nat → Int32) (vH_firstCells : Nat → Int32) (vH_kinds : Nat → Int32) (vH_sizes : Nat → Int32) : va_W := [(aR, oX5 vR qR vR_j11 fvR_2), (qR 0, rB cy 900 vR_tape), (aH, oX4 vH qH), (qR 3, rJ cy 4 vR_ringNames), (qR 4, rJ cy 7 vR_thingNames), (qH 9, rI cy 4 vH_places), (qH 16, rI cy 7 vH_firstCells), (qH 14, rI cy 7 vH_kinds), (qH 15, rI cy 7 vH_sizes)]
set_option maxHeartbeats 4000000 in
set_option maxRecDepth 100000 in
theorem kX5_readThing (l : Launch) (D : va_G) (cy : Nat → ClassId) (ad : (Nat → Nat) × (Nat → Nat)) (sz : Nat) (aR : Nat) (qR : Nat → Nat) (aH : Nat) (qH : Nat → Nat) (vR_j11 : Int64) (vR : Nat → Int32) (vR_tape : Nat → Int32) (vH : Nat → Int32) (vR_ringNames : Nat → Int64) (vR_thingNames : Nat → Int64) (vH_places : Nat → Int32) (vH_firstCells : Nat → Int32) (vH_kinds : Nat → Int32) (vH_sizes : Nat → Int32) (zr : Int32) (z_vR_j11 : Int64) (z_vR : Nat → Int32) (z_vH : Nat → Int32) (z_vR_thingNames : Nat → Int64) (z_vH_firstCells : Nat → Int32) (z_vH_kinds : Nat → Int32) (z_vH_sizes : Nat → Int32) (hok : fX5_readThing vR_j11 vR vR_tape vH vR_ringNames vR_thingNames vH_places vH_firstCells vH_kinds vH_sizes = some (zr, z_vR_j11, z_vR, z_vH, z_vR_thingNames, z_vH_firstCells, z_vH_kinds, z_vH_sizes)) (A : Nat → Prop) (hAe : va_A (wX5_readThing cy aR qR aH qH aH vR_j11 vR vR_tape vH vR_ringNames vR_thingNames vH_places vH_firstCells vH_kinds vH_sizes) sz = A) : Met l yX5_readThing wsX5_readThing ({ frames := 7, cells := 0, slots := 0, locals := 153 } : Room) (kPreS D cy ad [.ref aR] (wX5_readThing cy aR qR aH qH aH vR_j11 vR vR_tape vH vR_ringNames vR_thingNames vH_places vH_firstCells vH_kinds vH_sizes) sz A) (kQi D cy zr A (wX5_readThing cy aR qR aH qH aH z_vR_j11 z_vR vR_tape z_vH vR_ringNames z_vR_thingNames vH_places z_vH_firstCells z_vH_kinds z_vH_sizes)) 0 0 A := by
  refine Met.ofW (cc := cX5_readThing) (maxL := 7) (ret := (some .boolean)) (by decide) rfl ?_
  intro p e s m args below meth c s₁ B hml hv
  obtain ⟨rfl, ⟨hsz, hP, hK, hD0, hN⟩, hSt⟩ := hv
  have hx := B.exec
  have hb := B.bytes
  have hr := B.returns
  have ht0 : ∀ w ∈ W0, w.before _ s = true := fun w h => atoms_spec (ws := wsX5_readThing) B.pre w (List.mem_cons_of_mem _ h)
  have hown : s.vm.findClass RX5 = some m.cls := findClass_of_methodNamed B.named
  have hlocks := B.notSynchronized
  subst hsz
  have hD : va_D A (wX5_readThing cy aR qR aH qH aH vR_j11 vR vR_tape vH vR_ringNames vR_thingNames vH_places vH_firstCells vH_kinds vH_sizes) := by rw [← hAe]; exact hD0.self
  have hA : ∀ q : Nat, s.heap.size ≤ q → A q := fun q h => by rw [← hAe]; exact Or.inr h
  have hS : va_S A s.heap s.heap [] := va_S.rf
  have hl := lv_entry ([.ref aR]) (n := 7) (Nat.le_of_ble_eq_true rfl)
  rw [lg_entry_eq]
  generalize (lg_sl ([.ref aR]) ++ List.replicate (7 - (lg_sl ([.ref aR])).length) Slot.unset).toArray = ls at hl ⊢
  have hl : lv_has ls 7 [(0, .ref aR)] := hl
  generalize hQe : MQ below (kQi D cy zr A (wX5_readThing cy aR qR aH qH aH z_vR_j11 z_vR vR_tape z_vH vR_ringNames z_vR_thingNames vH_places z_vH_firstCells z_vH_kinds z_vH_sizes)) ([.ref aR] : List Value).toArray s 0 0 A = Q
  have J173 : ∀ (vR_11_173 : Int64) (vR_173 : Nat → Int32), ∀ (H : Heap) (locs : List Loc) (ls : Array Slot), va_P D vwCl (wX5_readThing cy aR qR aH qH aH vR_11_173 vR_173 vR_tape vH vR_ringNames vR_thingNames vH_places vH_firstCells vH_kinds vH_sizes) H → va_D A (wX5_readThing cy aR qR aH qH aH vR_11_173 vR_173 vR_tape vH vR_ringNames vR_thingNames vH_places vH_firstCells vH_kinds vH_sizes) → va_S A s.heap H locs → lv_has ls 7 [] → fX5_readThing_J173 vH vR_thingNames vH_firstCells vH_kinds vH_sizes vR_11_173 vR_173 = some (zr, z_vR_j11, z_vR, z_vH, z_vR_thingNames, z_vH_firstCells, z_vH_kinds, z_vH_sizes) → W p l e ({ frames := 7, cells := 0, slots := 0, locals := 153 } : Room) s m ([.ref aR] : List Value).toArray below meth c H locs 0 0 Q (F0 m 173 ls []) := by
    intro vR_11_173 vR_173 H locs ls hP hD hS hl hok
    unfold fX5_readThing_J173 at hok
    refine lv_iconst (v := 0) hx hb dX5_readThing_173 (by decide) ?_
    cases hok
    subst hQe; exact W.zret hx hb hr rfl (fun t ht hW => ⟨⟨_, (), rfl, rfl, by rw [ht]; exact hP, va_K.moved hW.alike hK, hD⟩, hS.F ht⟩) hS.2.2 dX5_readThing_174
  have J91 : ∀ (vR_11_91 : Int64) (vR_91 : Nat → Int32), ∀ (H : Heap) (locs : List Loc) (ls : Array Slot), va_P D vwCl (wX5_readThing cy aR qR aH qH aH vR_11_91 vR_91 vR_tape vH vR_ringNames vR_thingNames vH_places vH_firstCells vH_kinds vH_sizes) H → va_D A (wX5_readThing cy aR qR aH qH aH vR_11_91 vR_91 vR_tape vH vR_ringNames vR_thingNames vH_places vH_firstCells vH_kinds vH_sizes) → va_S A s.heap H locs → lv_has ls 7 [] → fX5_readThing_J91 vH vR_thingNames vH_firstCells vH_kinds vH_sizes vR_11_91 vR_91 = some (zr, z_vR_j11, z_vR, z_vH, z_vR_thingNames, z_vH_firstCells, z_vH_kinds, z_vH_sizes) → W p l e ({ frames := 7, cells := 0, slots := 0, locals := 153 } : Room) s m ([.ref aR] : List Value).toArray below meth c H locs 0 0 Q (F0 m 91 ls []) := by
    intro vR_11_91 vR_91 H locs ls hP hD hS hl hok
    unfold fX5_readThing_J91 at hok
    refine lv_iconst (v := 0) hx hb dX5_readThing_91 (by decide) ?_
    cases hok
    subst hQe; exact W.zret hx hb hr rfl (fun t ht hW => ⟨⟨_, (), rfl, rfl, by rw [ht]; exact hP, va_K.moved hW.alike hK, hD⟩, hS.F ht⟩) hS.2.2 dX5_readThing_92
  have J39 : ∀ (vR_11_39 : Int64) (vR_39 : Nat → Int32), ∀ (H : Heap) (locs : List Loc) (ls : Array Slot), va_P D vwCl (wX5_readThing cy aR qR aH qH aH vR_11_39 vR_39 vR_tape vH vR_ringNames vR_thingNames vH_places vH_firstCells vH_kinds vH_sizes) H → va_D A (wX5_readThing cy aR qR aH qH aH vR_11_39 vR_39 vR_tape vH vR_ringNames vR_thingNames vH_places vH_firstCells vH_kinds vH_sizes) → va_S A s.heap H locs → lv_has ls 7 [] → fX5_readThing_J39 vH vR_thingNames vH_firstCells vH_kinds vH_sizes vR_11_39 vR_39 = some (zr, z_vR_j11, z_vR, z_vH, z_vR_thingNames, z_vH_firstCells, z_vH_kinds, z_vH_sizes) → W p l e ({ frames := 7, cells := 0, slots := 0, locals := 153 } : Room) s m ([.ref aR] : List Value).toArray below meth c H locs 0 0 Q (F0 m 39 ls []) := by
    intro vR_11_39 vR_39 H locs ls hP hD hS hl hok
    unfold fX5_readThing_J39 at hok
    refine lv_iconst (v := 0) hx hb dX5_readThing_39 (by decide) ?_
    cases hok
    subst hQe; exact W.zret hx hb hr rfl (fun t ht hW => ⟨⟨_, (), rfl, rfl, by rw [ht]; exact hP, va_K.moved hW.alike hK, hD⟩, hS.F ht⟩) hS.2.2 dX5_readThing_40
  unfold fX5_readThing at hok
  obtain ⟨H, hH⟩ : ∃ H, H = s.heap := ⟨_, rfl⟩
  obtain ⟨locs, hlc⟩ : ∃ x : List Loc, x = [] := ⟨_, rfl⟩
  have hP : va_P D vwCl (wX5_readThing cy aR qR aH qH aH vR_j11 vR vR_tape vH vR_ringNames vR_thingNames vH_places vH_firstCells vH_kinds vH_sizes) H := by rw [hH]; exact hP
  have hS : va_S A s.heap H locs := by rw [hH, hlc]; exact hS
  rw [show W p l e _ s m _ below meth c s.heap [] = W p l e _ s m _ below meth c H locs from by rw [hH, hlc]]
  refine lv_aload_n hx hb dX5_readThing_0 rfl (lv_at hl 0 rfl) ?_
  obtain ⟨⟨vR_j11_1, vR_1⟩, hc1, hok⟩ := k_bind hok
  try dsimp only at hok
  refine kCv (wc := (wX5_step cy aR qR aH aH vR_j11 vR vR_tape)) (wc2 := (wX5_step cy aR qR aH aH vR_j11_1 vR_1 vR_tape)) (wr := [(aH, oX4 vH qH), (qR 3, rJ cy 4 vR_ringNames), (qR 4, rJ cy 7 vR_thingNames), (qH 9, rI cy 4 vH_places), (qH 16, rI cy 7 vH_firstCells), (qH 14, rI cy 7 vH_kinds), (qH 15, rI cy 7 vH_sizes)]) (ws2 := (wX5_readThing cy aR qR aH qH aH vR_j11_1 vR_1 vR_tape vH vR_ringNames vR_thingNames vH_places vH_firstCells vH_kinds vH_sizes)) (kRunV (As := []) (rest := []) ⟨hx, hb, hml, hown, ht0⟩ (kX5_step l D cy _ aR qR aH vR_j11 vR vR_tape vR_j11_1 vR_1 hc1 _ rfl) (cwV 0 ht0 (gV wd328 wd329 wd330 wd276 wd331) rfl rfl rfl (by decide +kernel) ⟨Nat.le_of_ble_eq_true rfl, Nat.le_of_ble_eq_true rfl⟩) hK hN hP hD [0, 1] rfl (by decide) 0 4 rfl rfl rfl hl.1 rfl (Nat.le_of_ble_eq_true rfl) dX5_readThing_1 ⟨Nat.zero_le _, Nat.zero_le _⟩) hP hD hS hA [0, 1] [2, 3, 4, 5, 6, 7, 8] rfl rfl (by decide) (by decide) [7, 8, 0, 1, 2, 3, 4, 5, 6] (by decide) rfl rfl (fun H locs hP hD hS => ?_)
  refine lv_aload_n hx hb dX5_readThing_4 rfl (lv_at hl 0 rfl) ?_
  obtain ⟨⟨r5, vR_j11_5, vR_5⟩, hc5, hok⟩ := k_bind hok
  try dsimp only at hok
  refine kCl (wc := (wX5_takeNewName cy aR qR aH qH aH vR_j11_1 vR_1 vR_tape vH vR_ringNames vR_thingNames)) (wc2 := (wX5_takeNewName cy aR qR aH qH aH vR_j11_5 vR_5 vR_tape vH vR_ringNames vR_thingNames)) (wr := [(qH 9, rI cy 4 vH_places), (qH 16, rI cy 7 vH_firstCells), (qH 14, rI cy 7 vH_kinds), (qH 15, rI cy 7 vH_sizes)]) (ws2 := (wX5_readThing cy aR qR aH qH aH vR_j11_5 vR_5 vR_tape vH vR_ringNames vR_thingNames vH_places vH_firstCells vH_kinds vH_sizes)) (kRunVS (As := []) (rest := []) ⟨hx, hb, hml, hown, ht0⟩ (kX5_takeNewName l D cy ad _ aR qR aH qH vR_j11_1 vR_1 vR_tape vH vR_ringNames vR_thingNames r5 vR_j11_5 vR_5 hc5 _ rfl) (cwV 0 ht0 (gV wd371 wd372 wd373 wd276 wd374) rfl rfl rfl (by decide +kernel) ⟨Nat.le_of_ble_eq_true rfl, Nat.le_of_ble_eq_true rfl⟩) hK hN hP hD hSt hS hA [0, 1, 2, 3, 4] rfl (by decide) 0 4 rfl rfl rfl hl.1 rfl (Nat.le_of_ble_eq_true rfl) dX5_readThing_5 ⟨Nat.zero_le _, Nat.zero_le _⟩) hP hD hS hA [0, 1, 2, 3, 4] [5, 6, 7, 8] rfl rfl (by decide) (by decide) [4, 5, 6, 7, 8, 0, 1, 2, 3] (by decide) rfl rfl (fun H locs hP hD hS => ?_)
  refine lv_lstore_n (lv' := [(1, .long r5), (0, .ref aR)]) hx hb dX5_readThing_8 rfl hl (by decide) rfl (fun ls hl => ?_)
  refine lv_lload_n hx hb dX5_readThing_9 rfl (lv_at hl 0 rfl) ?_
  refine lv_lconst (v := 0) hx hb dX5_readThing_10 (by decide) ?_
  refine W.lcmp hx hb dX5_readThing_11 ?_
  refine lv_if_ge (tgt := 17) hx hb dX5_readThing_12 (by decide) (fun c12 => ?_) (fun c12 => ?_)
  · have hok := k_pos c12 hok
    refine lv_aload_n hx hb dX5_readThing_17 rfl (lv_at hl 1 rfl) ?_
    refine lv_aload_n hx hb dX5_readThing_18 rfl (lv_at hl 1 rfl) ?_
    obtain ⟨r19, hc19, hok⟩ := k_bind hok
    refine kCi (wc := (wX5_kindSaid cy aR qR aH aH vR_j11_5 vR_5 vR_tape)) (wc2 := (wX5_kindSaid cy aR qR aH aH vR_j11_5 vR_5 vR_tape)) (wr := [(aH, oX4 vH qH), (qR 3, rJ cy 4 vR_ringNames), (qR 4, rJ cy 7 vR_thingNames), (qH 9, rI cy 4 vH_places), (qH 16, rI cy 7 vH_firstCells), (qH 14, rI cy 7 vH_kinds), (qH 15, rI cy 7 vH_sizes)]) (ws2 := (wX5_readThing cy aR qR aH qH aH vR_j11_5 vR_5 vR_tape vH vR_ringNames vR_thingNames vH_places vH_firstCells vH_kinds vH_sizes)) (kRunVS (As := []) (rest := [.ref aR]) ⟨hx, hb, hml, hown, ht0⟩ (kX5_kindSaid l D cy ad _ aR qR aH vR_j11_5 vR_5 vR_tape r19 hc19 _ rfl) (cwV 0 ht0 (gV wd405 wd406 wd407 wd276 wd408) rfl rfl rfl (by decide +kernel) ⟨Nat.le_of_ble_eq_true rfl, Nat.le_of_ble_eq_true rfl⟩) hK hN hP hD hSt hS hA [0, 1] rfl (by decide) 0 4 rfl rfl rfl hl.1 rfl (Nat.le_of_ble_eq_true rfl) dX5_readThing_19 ⟨Nat.zero_le _, Nat.zero_le _⟩) hP hD hS hA [0, 1] [2, 3, 4, 5, 6, 7, 8] rfl rfl (by decide) (by decide) [7, 8, 0, 1, 2, 3, 4, 5, 6] (by decide) rfl rfl (fun H locs hP hD hS => ?_)
    obtain ⟨⟨r22, vR_j11_22, vR_22⟩, hc22, hok⟩ := k_bind hok
    try dsimp only at hok
    refine kCi (wc := (wX5_takeChoice cy aR qR aH aH vR_j11_5 vR_5 vR_tape)) (wc2 := (wX5_takeChoice cy aR qR aH aH vR_j11_22 vR_22 vR_tape)) (wr := [(aH, oX4 vH qH), (qR 3, rJ cy 4 vR_ringNames), (qR 4, rJ cy 7 vR_thingNames), (qH 9, rI cy 4 vH_places), (qH 16, rI cy 7 vH_firstCells), (qH 14, rI cy 7 vH_kinds), (qH 15, rI cy 7 vH_sizes)]) (ws2 := (wX5_readThing cy aR qR aH qH aH vR_j11_22 vR_22 vR_tape vH vR_ringNames vR_thingNames vH_places vH_firstCells vH_kinds vH_sizes)) (kRunV (As := [.int r19]) (rest := []) ⟨hx, hb, hml, hown, ht0⟩ (kX5_takeChoice l D cy _ aR qR aH vR_j11_5 vR_5 vR_tape r19 r22 vR_j11_22 vR_22 hc22 _ rfl) (cwV 1 ht0 (gV wd379 wd380 wd381 wd276 wd382) rfl rfl rfl (by decide +kernel) ⟨Nat.le_of_ble_eq_true rfl, Nat.le_of_ble_eq_true rfl⟩) hK hN hP hD [0, 1] rfl (by decide) 0 4 rfl rfl rfl hl.1 rfl (Nat.le_of_ble_eq_true rfl) dX5_readThing_22 ⟨Nat.zero_le _, Nat.zero_le _⟩) hP hD hS hA [0, 1] [2, 3, 4, 5, 6, 7, 8] rfl rfl (by decide) (by decide) [7, 8, 0, 1, 2, 3, 4, 5, 6] (by decide) rfl rfl (fun H locs hP hD hS => ?_)
    refine lv_istore_n (lv' := [(3, .int r22), (1, .long r5), (0, .ref aR)]) hx hb dX5_readThing_25 rfl hl (by decide) rfl (fun ls hl => ?_)
    refine lv_iload_n hx hb dX5_readThing_26 rfl (lv_at hl 0 rfl) ?_
    refine lv_if_lt (tgt := 39) hx hb dX5_readThing_27 (by decide) (fun c27 => ?_) (fun c27 => ?_)
    · have hok := k_pos c27 hok
      exact J39 vR_j11_22 vR_22 H locs ls hP hD hS (lv_sub hl [] rfl) hok
    · have hok := k_neg c27 hok
      refine lv_aload_n hx hb dX5_readThing_30 rfl (lv_at hl 2 rfl) ?_
      refine va_ldcS (own := RX5) (tx := "in") (index := 246) (q := ad.1 9) hx hb hown (hSt.2.1 (RX5, 246, "in", 9) (List.mem_of_getElem? (i := 17) rfl)) dX5_readThing_31 ?_
      obtain ⟨⟨r33, vR_j11_33, vR_33⟩, hc33, hok⟩ := k_bind hok
      try dsimp only at hok
      refine kCi (wc := (wX5_passes cy aR qR aH aH vR_j11_22 vR_22 vR_tape)) (wc2 := (wX5_passes cy aR qR aH aH vR_j11_33 vR_33 vR_tape)) (wr := [(aH, oX4 vH qH), (qR 3, rJ cy 4 vR_ringNames), (qR 4, rJ cy 7 vR_thingNames), (qH 9, rI cy 4 vH_places), (qH 16, rI cy 7 vH_firstCells), (qH 14, rI cy 7 vH_kinds), (qH 15, rI cy 7 vH_sizes)]) (ws2 := (wX5_readThing cy aR qR aH qH aH vR_j11_33 vR_33 vR_tape vH vR_ringNames vR_thingNames vH_places vH_firstCells vH_kinds vH_sizes)) (kRunVS (As := [.ref (ad.1 9)]) (rest := []) ⟨hx, hb, hml, hown, ht0⟩ (kX5_passes l D cy ad _ aR qR aH vR_j11_22 vR_22 vR_tape 9 r33 vR_j11_33 vR_33 hc33 _ rfl) (cwV 1 ht0 (gV wd341 wd342 wd343 wd276 wd344) rfl rfl rfl (by decide +kernel) ⟨Nat.le_of_ble_eq_true rfl, Nat.le_of_ble_eq_true rfl⟩) hK hN hP hD hSt hS hA [0, 1] rfl (by decide) 0 4 rfl rfl rfl hl.1 rfl (Nat.le_of_ble_eq_true rfl) dX5_readThing_33 ⟨Nat.zero_le _, Nat.zero_le _⟩) hP hD hS hA [0, 1] [2, 3, 4, 5, 6, 7, 8] rfl rfl (by decide) (by decide) [7, 8, 0, 1, 2, 3, 4, 5, 6] (by decide) rfl rfl (fun H locs hP hD hS => ?_)
      refine lv_if_ne (tgt := 41) hx hb dX5_readThing_36 (by decide) (fun c36 => ?_) (fun c36 => ?_)
      · have hok := k_neg c36 hok
        refine lv_aload_n hx hb dX5_readThing_41 rfl (lv_at hl 2 rfl) ?_
        refine lv_aload_n hx hb dX5_readThing_42 rfl (lv_at hl 2 rfl) ?_
        refine va_get (D := D) (ci := 4) (v := .ref (qR 3)) (C := RX5) (T := TX5) (N := 13) hx hb ht0 niX5 hown hK hP 0 rfl rfl 3 (by decide) (ht0 _ wd370) (fun _ h9 => h9) rfl dX5_readThing_43 ?_
        refine lv_aload_n hx hb dX5_readThing_46 rfl (lv_at hl 2 rfl) ?_
        refine va_get (D := D) (ci := 4) (v := .ref aH) (C := RX5) (T := TX5) (N := 13) hx hb ht0 niX5 hown hK hP 0 rfl rfl 2 (by decide) (ht0 _ wd266) (fun _ h9 => h9) rfl dX5_readThing_47 ?_
        refine va_get (D := D) (ci := 3) (v := .int (vH 2)) (C := RX4) (T := TX4) (N := 20) hx hb ht0 niX4 hown hK hP 2 rfl rfl 2 (by decide) (ht0 _ wd360) (fun _ h9 => h9) rfl dX5_readThing_50 ?_
        obtain ⟨⟨r53, vR_j11_53, vR_53⟩, hc53, hok⟩ := k_bind hok
        try dsimp only at hok
        refine kCi (wc := (wX5_takeToldName cy aR (qR 3) qR aH aH vR_j11_33 vR_33 vR_tape 4 vR_ringNames)) (wc2 := (wX5_takeToldName cy aR (qR 3) qR aH aH vR_j11_53 vR_53 vR_tape 4 vR_ringNames)) (wr := [(aH, oX4 vH qH), (qR 4, rJ cy 7 vR_thingNames), (qH 9, rI cy 4 vH_places), (qH 16, rI cy 7 vH_firstCells), (qH 14, rI cy 7 vH_kinds), (qH 15, rI cy 7 vH_sizes)]) (ws2 := (wX5_readThing cy aR qR aH qH aH vR_j11_53 vR_53 vR_tape vH vR_ringNames vR_thingNames vH_places vH_firstCells vH_kinds vH_sizes)) (kRunVS (As := [.ref (qR 3), .int (vH 2)]) (rest := []) ⟨hx, hb, hml, hown, ht0⟩ (kX5_takeToldName l D cy ad _ aR (qR 3) qR aH vR_j11_33 vR_33 vR_tape 4 vR_ringNames (vH 2) r53 vR_j11_53 vR_53 hc53 _ rfl) (cwV 2 ht0 (gV wd387 wd388 wd389 wd276 wd390) rfl rfl rfl (by decide +kernel) ⟨Nat.le_of_ble_eq_true rfl, Nat.le_of_ble_eq_true rfl⟩) hK hN hP hD hSt hS hA [0, 1, 3] rfl (by decide) 0 4 rfl rfl rfl hl.1 rfl (Nat.le_of_ble_eq_true rfl) dX5_readThing_53 ⟨Nat.zero_le _, Nat.zero_le _⟩) hP hD hS hA [0, 1, 3] [2, 4, 5, 6, 7, 8] rfl rfl (by decide) (by decide) [6, 7, 0, 8, 1, 2, 3, 4, 5] (by decide) rfl rfl (fun H locs hP hD hS => ?_)
        refine lv_istore (lv' := [(4, .int r53), (3, .int r22), (1, .long r5), (0, .ref aR)]) hx hb dX5_readThing_56 hl (by decide) rfl (fun ls hl => ?_)
        refine lv_iload hx hb dX5_readThing_58 (lv_at hl 0 rfl) ?_
        refine lv_if_lt (tgt := 91) hx hb dX5_readThing_60 (by decide) (fun c60 => ?_) (fun c60 => ?_)
        · have hok := k_pos c60 hok
          exact J91 vR_j11_53 vR_53 H locs ls hP hD hS (lv_sub hl [] rfl) hok
        · have hok := k_neg c60 hok
          refine lv_aload_n hx hb dX5_readThing_63 rfl (lv_at hl 3 rfl) ?_
          refine va_ldcS (own := RX5) (tx := "at") (index := 248) (q := ad.1 0) hx hb hown (hSt.2.1 (RX5, 248, "at", 0) (List.mem_of_getElem? (i := 18) rfl)) dX5_readThing_64 ?_
          obtain ⟨⟨r66, vR_j11_66, vR_66⟩, hc66, hok⟩ := k_bind hok
          try dsimp only at hok
          refine kCi (wc := (wX5_passes cy aR qR aH aH vR_j11_53 vR_53 vR_tape)) (wc2 := (wX5_passes cy aR qR aH aH vR_j11_66 vR_66 vR_tape)) (wr := [(aH, oX4 vH qH), (qR 3, rJ cy 4 vR_ringNames), (qR 4, rJ cy 7 vR_thingNames), (qH 9, rI cy 4 vH_places), (qH 16, rI cy 7 vH_firstCells), (qH 14, rI cy 7 vH_kinds), (qH 15, rI cy 7 vH_sizes)]) (ws2 := (wX5_readThing cy aR qR aH qH aH vR_j11_66 vR_66 vR_tape vH vR_ringNames vR_thingNames vH_places vH_firstCells vH_kinds vH_sizes)) (kRunVS (As := [.ref (ad.1 0)]) (rest := []) ⟨hx, hb, hml, hown, ht0⟩ (kX5_passes l D cy ad _ aR qR aH vR_j11_53 vR_53 vR_tape 0 r66 vR_j11_66 vR_66 hc66 _ rfl) (cwV 1 ht0 (gV wd341 wd342 wd343 wd276 wd344) rfl rfl rfl (by decide +kernel) ⟨Nat.le_of_ble_eq_true rfl, Nat.le_of_ble_eq_true rfl⟩) hK hN hP hD hSt hS hA [0, 1] rfl (by decide) 0 4 rfl rfl rfl hl.1 rfl (Nat.le_of_ble_eq_true rfl) dX5_readThing_66 ⟨Nat.zero_le _, Nat.zero_le _⟩) hP hD hS hA [0, 1] [2, 3, 4, 5, 6, 7, 8] rfl rfl (by decide) (by decide) [7, 8, 0, 1, 2, 3, 4, 5, 6] (by decide) rfl rfl (fun H locs hP hD hS => ?_)
          refine lv_if_eq (tgt := 91) hx hb dX5_readThing_69 (by decide) (fun c69 => ?_) (fun c69 => ?_)
          · have hok := k_pos c69 hok
            exact J91 vR_j11_66 vR_66 H locs ls hP hD hS (lv_sub hl [] rfl) hok
          · have hok := k_neg c69 hok
            refine lv_aload_n hx hb dX5_readThing_72 rfl (lv_at hl 3 rfl) ?_
            refine lv_iconst (v := 0) hx hb dX5_readThing_73 (by decide) ?_
            refine lv_aload_n hx hb dX5_readThing_74 rfl (lv_at hl 3 rfl) ?_
            refine va_get (D := D) (ci := 4) (v := .ref aH) (C := RX5) (T := TX5) (N := 13) hx hb ht0 niX5 hown hK hP 0 rfl rfl 2 (by decide) (ht0 _ wd266) (fun _ h9 => h9) rfl dX5_readThing_75 ?_
            refine lv_iload hx hb dX5_readThing_78 (lv_at hl 0 rfl) ?_
            obtain ⟨r80, hc80, hok⟩ := k_bind hok
            refine kCi (wc := (wX4_placesOf cy aH qH vH vH_places)) (wc2 := (wX4_placesOf cy aH qH vH vH_places)) (wr := [(aR, oX5 vR_66 qR vR_j11_66 aH), (qR 0, rB cy 900 vR_tape), (qR 3, rJ cy 4 vR_ringNames), (qR 4, rJ cy 7 vR_thingNames), (qH 16, rI cy 7 vH_firstCells), (qH 14, rI cy 7 vH_kinds), (qH 15, rI cy 7 vH_sizes)]) (ws2 := (wX5_readThing cy aR qR aH qH aH vR_j11_66 vR_66 vR_tape vH vR_ringNames vR_thingNames vH_places vH_firstCells vH_kinds vH_sizes)) (kRunV (As := [.int r53]) (rest := [.int 0, .ref aR]) ⟨hx, hb, hml, hown, ht0⟩ (kX4_placesOf l D cy _ aH qH vH vH_places r53 r80 hc80 _ rfl) (cwV 1 ht0 (gV wd391 wd257 wd258 wd9 wd259) rfl rfl rfl (by decide +kernel) ⟨Nat.le_of_ble_eq_true rfl, Nat.le_of_ble_eq_true rfl⟩) hK hN hP hD [2, 5] rfl (by decide) 2 3 rfl rfl rfl hl.1 rfl (Nat.le_of_ble_eq_true rfl) dX5_readThing_80 ⟨Nat.zero_le _, Nat.zero_le _⟩) hP hD hS hA [2, 5] [0, 1, 3, 4, 6, 7, 8] rfl rfl (by decide) (by decide) [0, 1, 7, 2, 3, 8, 4, 5, 6] (by decide) rfl rfl (fun H locs hP hD hS => ?_)
            refine lv_iconst (v := 1) hx hb dX5_readThing_83 (by decide) ?_
            refine lv_isub hx hb dX5_readThing_84 ?_
            obtain ⟨⟨r85, vR_85⟩, hc85, hok⟩ := k_bind hok
            try dsimp only at hok
            refine kCi (wc := (wX5_isWhole cy aR qR aH aH vR_j11_66 vR_66)) (wc2 := (wX5_isWhole cy aR qR aH aH vR_j11_66 vR_85)) (wr := [(qR 0, rB cy 900 vR_tape), (aH, oX4 vH qH), (qR 3, rJ cy 4 vR_ringNames), (qR 4, rJ cy 7 vR_thingNames), (qH 9, rI cy 4 vH_places), (qH 16, rI cy 7 vH_firstCells), (qH 14, rI cy 7 vH_kinds), (qH 15, rI cy 7 vH_sizes)]) (ws2 := (wX5_readThing cy aR qR aH qH aH vR_j11_66 vR_85 vR_tape vH vR_ringNames vR_thingNames vH_places vH_firstCells vH_kinds vH_sizes)) (kRunV (As := [.int 0, .int (r80 - (1 : Int32))]) (rest := []) ⟨hx, hb, hml, hown, ht0⟩ (kX5_isWhole l D cy _ aR qR aH vR_j11_66 vR_66 (0 : Int32) (r80 - (1 : Int32)) r85 vR_85 hc85 _ rfl) (cwV 2 ht0 (gV wd336 wd337 wd338 wd276 wd339) rfl rfl rfl (by decide +kernel) ⟨Nat.le_of_ble_eq_true rfl, Nat.le_of_ble_eq_true rfl⟩) hK hN hP hD [0] rfl (by decide) 0 4 rfl rfl rfl hl.1 rfl (Nat.le_of_ble_eq_true rfl) dX5_readThing_85 ⟨Nat.zero_le _, Nat.zero_le _⟩) hP hD hS hA [0] [1, 2, 3, 4, 5, 6, 7, 8] rfl rfl (by decide) (by decide) [8, 0, 1, 2, 3, 4, 5, 6, 7] (by decide) rfl rfl (fun H locs hP hD hS => ?_)
            refine lv_if_ne (tgt := 93) hx hb dX5_readThing_88 (by decide) (fun c88 => ?_) (fun c88 => ?_)
            · have hok := k_neg c88 hok
              refine lv_iload hx hb dX5_readThing_93 (lv_at hl 0 rfl) ?_
              refine lv_aload_n hx hb dX5_readThing_95 rfl (lv_at hl 3 rfl) ?_
              refine va_get (D := D) (ci := 4) (v := .int (vR_85 10)) (C := RX5) (T := TX5) (N := 13) hx hb ht0 niX5 hown hK hP 0 rfl rfl 10 (by decide) (ht0 _ wd272) (fun _ h9 => h9) rfl dX5_readThing_96 ?_
              obtain ⟨r99, hc99, hok⟩ := k_bind hok
              refine kCi (wc := (wX8_cellAt cy )) (wc2 := (wX8_cellAt cy )) (wr := [(aR, oX5 vR_85 qR vR_j11_66 aH), (qR 0, rB cy 900 vR_tape), (aH, oX4 vH qH), (qR 3, rJ cy 4 vR_ringNames), (qR 4, rJ cy 7 vR_thingNames), (qH 9, rI cy 4 vH_places), (qH 16, rI cy 7 vH_firstCells), (qH 14, rI cy 7 vH_kinds), (qH 15, rI cy 7 vH_sizes)]) (ws2 := (wX5_readThing cy aR qR aH qH aH vR_j11_66 vR_85 vR_tape vH vR_ringNames vR_thingNames vH_places vH_firstCells vH_kinds vH_sizes)) (kRunSN (As := [.int r53, .int (vR_85 10)]) (rest := []) ⟨hx, hb, hml, hown, ht0⟩ (kX8_cellAt l D cy _ r53 (vR_85 10) r99 hc99 _ rfl) ⟨va_cnB 2 ht0 (gN wd260) rfl rfl rfl (hN _ (List.mem_of_getElem? (i := 5) rfl)) (ht0 _ wd57) (by decide +kernel) ⟨Nat.le_of_ble_eq_true rfl, Nat.le_of_ble_eq_true rfl⟩, ht0 _ wd261, trivial⟩ hK hN hP hD [] rfl (by decide) rfl hl.1 rfl (Nat.le_of_ble_eq_true rfl) dX5_readThing_99 ⟨Nat.zero_le _, Nat.zero_le _⟩) hP hD hS hA [] [0, 1, 2, 3, 4, 5, 6, 7, 8] rfl rfl (by decide) (by decide) [0, 1, 2, 3, 4, 5, 6, 7, 8] (by decide) rfl rfl (fun H locs hP hD hS => ?_)
              refine lv_istore (lv' := [(5, .int r99), (4, .int r53), (3, .int r22), (1, .long r5), (0, .ref aR)]) hx hb dX5_readThing_102 hl (by decide) rfl (fun ls hl => ?_)
              refine lv_aload_n hx hb dX5_readThing_104 rfl (lv_at hl 4 rfl) ?_
              refine va_get (D := D) (ci := 4) (v := .ref aH) (C := RX5) (T := TX5) (N := 13) hx hb ht0 niX5 hown hK hP 0 rfl rfl 2 (by decide) (ht0 _ wd266) (fun _ h9 => h9) rfl dX5_readThing_105 ?_
              refine lv_iload hx hb dX5_readThing_108 (lv_at hl 0 rfl) ?_
              obtain ⟨r110, hc110, hok⟩ := k_bind hok
              refine kCi (wc := (wX4_isTaken cy aH qH vH vH_firstCells)) (wc2 := (wX4_isTaken cy aH qH vH vH_firstCells)) (wr := [(aR, oX5 vR_85 qR vR_j11_66 aH), (qR 0, rB cy 900 vR_tape), (qR 3, rJ cy 4 vR_ringNames), (qR 4, rJ cy 7 vR_thingNames), (qH 9, rI cy 4 vH_places), (qH 14, rI cy 7 vH_kinds), (qH 15, rI cy 7 vH_sizes)]) (ws2 := (wX5_readThing cy aR qR aH qH aH vR_j11_66 vR_85 vR_tape vH vR_ringNames vR_thingNames vH_places vH_firstCells vH_kinds vH_sizes)) (kRunV (As := [.int r99]) (rest := []) ⟨hx, hb, hml, hown, ht0⟩ (kX4_isTaken l D cy _ aH qH vH vH_firstCells r99 r110 hc110 _ rfl) (cwV 1 ht0 (gV wd409 wd410 wd411 wd9 wd412) rfl rfl rfl (by decide +kernel) ⟨Nat.le_of_ble_eq_true rfl, Nat.le_of_ble_eq_true rfl⟩) hK hN hP hD [2, 6] rfl (by decide) 2 3 rfl rfl rfl hl.1 rfl (Nat.le_of_ble_eq_true rfl) dX5_readThing_110 ⟨Nat.zero_le _, Nat.zero_le _⟩) hP hD hS hA [2, 6] [0, 1, 3, 4, 5, 7, 8] rfl rfl (by decide) (by decide) [0, 1, 7, 2, 3, 4, 8, 5, 6] (by decide) rfl rfl (fun H locs hP hD hS => ?_)
              refine lv_if_eq (tgt := 122) hx hb dX5_readThing_113 (by decide) (fun c113 => ?_) (fun c113 => ?_)
              · have hok := k_pos c113 hok
                refine lv_aload_n hx hb dX5_readThing_122 rfl (lv_at hl 4 rfl) ?_
                obtain ⟨⟨vR_j11_123, vR_123⟩, hc123, hok⟩ := k_bind hok
                try dsimp only at hok
                refine kCv (wc := (wX5_step cy aR qR aH aH vR_j11_66 vR_85 vR_tape)) (wc2 := (wX5_step cy aR qR aH aH vR_j11_123 vR_123 vR_tape)) (wr := [(aH, oX4 vH qH), (qR 3, rJ cy 4 vR_ringNames), (qR 4, rJ cy 7 vR_thingNames), (qH 9, rI cy 4 vH_places), (qH 16, rI cy 7 vH_firstCells), (qH 14, rI cy 7 vH_kinds), (qH 15, rI cy 7 vH_sizes)]) (ws2 := (wX5_readThing cy aR qR aH qH aH vR_j11_123 vR_123 vR_tape vH vR_ringNames vR_thingNames vH_places vH_firstCells vH_kinds vH_sizes)) (kRunV (As := []) (rest := []) ⟨hx, hb, hml, hown, ht0⟩ (kX5_step l D cy _ aR qR aH vR_j11_66 vR_85 vR_tape vR_j11_123 vR_123 hc123 _ rfl) (cwV 0 ht0 (gV wd328 wd329 wd330 wd276 wd331) rfl rfl rfl (by decide +kernel) ⟨Nat.le_of_ble_eq_true rfl, Nat.le_of_ble_eq_true rfl⟩) hK hN hP hD [0, 1] rfl (by decide) 0 4 rfl rfl rfl hl.1 rfl (Nat.le_of_ble_eq_true rfl) dX5_readThing_123 ⟨Nat.zero_le _, Nat.zero_le _⟩) hP hD hS hA [0, 1] [2, 3, 4, 5, 6, 7, 8] rfl rfl (by decide) (by decide) [7, 8, 0, 1, 2, 3, 4, 5, 6] (by decide) rfl rfl (fun H locs hP hD hS => ?_)
                refine lv_aload_n hx hb dX5_readThing_126 rfl (lv_at hl 4 rfl) ?_
                refine va_ldcS (own := RX5) (tx := "size") (index := 253) (q := ad.1 19) hx hb hown (hSt.2.1 (RX5, 253, "size", 19) (List.mem_of_getElem? (i := 19) rfl)) dX5_readThing_127 ?_
                obtain ⟨⟨r129, vR_j11_129, vR_129⟩, hc129, hok⟩ := k_bind hok
                try dsimp only at hok
                refine kCi (wc := (wX5_passes cy aR qR aH aH vR_j11_123 vR_123 vR_tape)) (wc2 := (wX5_passes cy aR qR aH aH vR_j11_129 vR_129 vR_tape)) (wr := [(aH, oX4 vH qH), (qR 3, rJ cy 4 vR_ringNames), (qR 4, rJ cy 7 vR_thingNames), (qH 9, rI cy 4 vH_places), (qH 16, rI cy 7 vH_firstCells), (qH 14, rI cy 7 vH_kinds), (qH 15, rI cy 7 vH_sizes)]) (ws2 := (wX5_readThing cy aR qR aH qH aH vR_j11_129 vR_129 vR_tape vH vR_ringNames vR_thingNames vH_places vH_firstCells vH_kinds vH_sizes)) (kRunVS (As := [.ref (ad.1 19)]) (rest := []) ⟨hx, hb, hml, hown, ht0⟩ (kX5_passes l D cy ad _ aR qR aH vR_j11_123 vR_123 vR_tape 19 r129 vR_j11_129 vR_129 hc129 _ rfl) (cwV 1 ht0 (gV wd341 wd342 wd343 wd276 wd344) rfl rfl rfl (by decide +kernel) ⟨Nat.le_of_ble_eq_true rfl, Nat.le_of_ble_eq_true rfl⟩) hK hN hP hD hSt hS hA [0, 1] rfl (by decide) 0 4 rfl rfl rfl hl.1 rfl (Nat.le_of_ble_eq_true rfl) dX5_readThing_129 ⟨Nat.zero_le _, Nat.zero_le _⟩) hP hD hS hA [0, 1] [2, 3, 4, 5, 6, 7, 8] rfl rfl (by decide) (by decide) [7, 8, 0, 1, 2, 3, 4, 5, 6] (by decide) rfl rfl (fun H locs hP hD hS => ?_)
                refine lv_if_ne (tgt := 137) hx hb dX5_readThing_132 (by decide) (fun c132 => ?_) (fun c132 => ?_)
                · have hok := k_neg c132 hok
                  refine lv_aload_n hx hb dX5_readThing_137 rfl (lv_at hl 4 rfl) ?_
                  refine lv_iconst (v := 1) hx hb dX5_readThing_138 (by decide) ?_
                  refine lv_bipush (v := 9) hx hb dX5_readThing_139 (by decide) ?_
                  obtain ⟨⟨r141, vR_j11_141, vR_141⟩, hc141, hok⟩ := k_bind hok
                  try dsimp only at hok
                  refine kCi (wc := (wX5_takeWhole cy aR qR aH aH vR_j11_129 vR_129 vR_tape)) (wc2 := (wX5_takeWhole cy aR qR aH aH vR_j11_141 vR_141 vR_tape)) (wr := [(aH, oX4 vH qH), (qR 3, rJ cy 4 vR_ringNames), (qR 4, rJ cy 7 vR_thingNames), (qH 9, rI cy 4 vH_places), (qH 16, rI cy 7 vH_firstCells), (qH 14, rI cy 7 vH_kinds), (qH 15, rI cy 7 vH_sizes)]) (ws2 := (wX5_readThing cy aR qR aH qH aH vR_j11_141 vR_141 vR_tape vH vR_ringNames vR_thingNames vH_places vH_firstCells vH_kinds vH_sizes)) (kRunV (As := [.int 1, .int 9]) (rest := []) ⟨hx, hb, hml, hown, ht0⟩ (kX5_takeWhole l D cy _ aR qR aH vR_j11_129 vR_129 vR_tape (1 : Int32) (9 : Int32) r141 vR_j11_141 vR_141 hc141 _ rfl) (cwV 2 ht0 (gV wd345 wd346 wd347 wd276 wd348) rfl rfl rfl (by decide +kernel) ⟨Nat.le_of_ble_eq_true rfl, Nat.le_of_ble_eq_true rfl⟩) hK hN hP hD [0, 1] rfl (by decide) 0 4 rfl rfl rfl hl.1 rfl (Nat.le_of_ble_eq_true rfl) dX5_readThing_141 ⟨Nat.zero_le _, Nat.zero_le _⟩) hP hD hS hA [0, 1] [2, 3, 4, 5, 6, 7, 8] rfl rfl (by decide) (by decide) [7, 8, 0, 1, 2, 3, 4, 5, 6] (by decide) rfl rfl (fun H locs hP hD hS => ?_)
                  refine lv_istore (lv' := [(6, .int r141), (5, .int r99), (4, .int r53), (3, .int r22), (1, .long r5), (0, .ref aR)]) hx hb dX5_readThing_144 hl (by decide) rfl (fun ls hl => ?_)
                  refine lv_iload hx hb dX5_readThing_146 (lv_at hl 0 rfl) ?_
                  refine lv_if_lt (tgt := 173) hx hb dX5_readThing_148 (by decide) (fun c148 => ?_) (fun c148 => ?_)
                  · have hok := k_pos c148 hok
                    exact J173 vR_j11_141 vR_141 H locs ls hP hD hS (lv_sub hl [] rfl) hok
                  · have hok := k_neg c148 hok
                    refine lv_aload_n hx hb dX5_readThing_151 rfl (lv_at hl 5 rfl) ?_
                    refine va_get (D := D) (ci := 4) (v := .ref aH) (C := RX5) (T := TX5) (N := 13) hx hb ht0 niX5 hown hK hP 0 rfl rfl 2 (by decide) (ht0 _ wd266) (fun _ h9 => h9) rfl dX5_readThing_152 ?_
                    refine va_get (D := D) (ci := 3) (v := .int (vH 5)) (C := RX4) (T := TX4) (N := 20) hx hb ht0 niX4 hown hK hP 2 rfl rfl 5 (by decide) (ht0 _ wd357) (fun _ h9 => h9) rfl dX5_readThing_155 ?_
                    refine lv_if_lt (tgt := 173) hx hb dX5_readThing_158 (by decide) (fun c158 => ?_) (fun c158 => ?_)
                    · have hok := k_pos c158 hok
                      exact J173 vR_j11_141 vR_141 H locs ls hP hD hS (lv_sub hl [] rfl) hok
                    · have hok := k_neg c158 hok
                      refine lv_aload_n hx hb dX5_readThing_161 rfl (lv_at hl 5 rfl) ?_
                      refine va_get (D := D) (ci := 4) (v := .ref aH) (C := RX5) (T := TX5) (N := 13) hx hb ht0 niX5 hown hK hP 0 rfl rfl 2 (by decide) (ht0 _ wd266) (fun _ h9 => h9) rfl dX5_readThing_162 ?_
                      refine va_get (D := D) (ci := 3) (v := .int (vH 5)) (C := RX4) (T := TX4) (N := 20) hx hb ht0 niX4 hown hK hP 2 rfl rfl 5 (by decide) (ht0 _ wd357) (fun _ h9 => h9) rfl dX5_readThing_165 ?_
                      refine lv_bipush (v := 7) hx hb dX5_readThing_168 (by decide) ?_
                      refine lv_icmp_lt (tgt := 175) hx hb dX5_readThing_170 (by decide) (fun c170 => ?_) (fun c170 => ?_)
                      · have hok := k_pos c170 hok
                        refine lv_aload_n hx hb dX5_readThing_175 rfl (lv_at hl 5 rfl) ?_
                        refine va_get (D := D) (ci := 4) (v := .ref (qR 4)) (C := RX5) (T := TX5) (N := 13) hx hb ht0 niX5 hown hK hP 0 rfl rfl 4 (by decide) (ht0 _ wd362) (fun _ h9 => h9) rfl dX5_readThing_176 ?_
                        refine lv_aload_n hx hb dX5_readThing_179 rfl (lv_at hl 5 rfl) ?_
                        refine va_get (D := D) (ci := 4) (v := .ref aH) (C := RX5) (T := TX5) (N := 13) hx hb ht0 niX5 hown hK hP 0 rfl rfl 2 (by decide) (ht0 _ wd266) (fun _ h9 => h9) rfl dX5_readThing_180 ?_
                        refine va_get (D := D) (ci := 3) (v := .int (vH 5)) (C := RX4) (T := TX4) (N := 20) hx hb ht0 niX4 hown hK hP 2 rfl rfl 5 (by decide) (ht0 _ wd357) (fun _ h9 => h9) rfl dX5_readThing_183 ?_
                        refine lv_lload_n hx hb dX5_readThing_186 rfl (lv_at hl 4 rfl) ?_
                        obtain ⟨g187, hok⟩ := gd_some hok
                        refine va_last hx hb hK hP hD hS 4 2 rfl rfl (okI_in g187) dX5_readThing_187 (fun H locs hP hD hS => ?_)
                        have hP : va_P D vwCl (wX5_readThing cy aR qR aH qH aH vR_j11_141 vR_141 vR_tape vH vR_ringNames (vp_updL vR_thingNames (vH 5).toNatClampNeg r5) vH_places vH_firstCells vH_kinds vH_sizes) H := hP
                        have hD : va_D A (wX5_readThing cy aR qR aH qH aH vR_j11_141 vR_141 vR_tape vH vR_ringNames (vp_updL vR_thingNames (vH 5).toNatClampNeg r5) vH_places vH_firstCells vH_kinds vH_sizes) := hD
                        refine lv_aload_n hx hb dX5_readThing_188 rfl (lv_at hl 5 rfl) ?_
                        refine va_get (D := D) (ci := 4) (v := .ref aH) (C := RX5) (T := TX5) (N := 13) hx hb ht0 niX5 hown hK hP 0 rfl rfl 2 (by decide) (ht0 _ wd266) (fun _ h9 => h9) rfl dX5_readThing_189 ?_
                        refine lv_iload_n hx hb dX5_readThing_192 rfl (lv_at hl 3 rfl) ?_
                        refine lv_iload hx hb dX5_readThing_193 (lv_at hl 1 rfl) ?_
                        refine lv_iload hx hb dX5_readThing_195 (lv_at hl 0 rfl) ?_
                        obtain ⟨⟨vH_197, vH_kinds_197, vH_firstCells_197, vH_sizes_197⟩, hc197, hok⟩ := k_bind hok
                        try dsimp only at hok
                        refine kCv (wc := (wX4_addThing cy aH qH vH vH_kinds vH_firstCells vH_sizes)) (wc2 := (wX4_addThing cy aH qH vH_197 vH_kinds_197 vH_firstCells_197 vH_sizes_197)) (wr := [(aR, oX5 vR_141 qR vR_j11_141 aH), (qR 0, rB cy 900 vR_tape), (qR 3, rJ cy 4 vR_ringNames), (qR 4, rJ cy 7 (vp_updL vR_thingNames (vH 5).toNatClampNeg r5)), (qH 9, rI cy 4 vH_places)]) (ws2 := (wX5_readThing cy aR qR aH qH aH vR_j11_141 vR_141 vR_tape vH_197 vR_ringNames (vp_updL vR_thingNames (vH 5).toNatClampNeg r5) vH_places vH_firstCells_197 vH_kinds_197 vH_sizes_197)) (kRunV (As := [.int r22, .int r99, .int r141]) (rest := []) ⟨hx, hb, hml, hown, ht0⟩ (kX4_addThing l D cy _ aH qH vH vH_kinds vH_firstCells vH_sizes r22 r99 r141 vH_197 vH_kinds_197 vH_firstCells_197 vH_sizes_197 hc197 _ rfl) (cwV 3 ht0 (gV wd413 wd414 wd415 wd9 wd416) rfl rfl rfl (by decide +kernel) ⟨Nat.le_of_ble_eq_true rfl, Nat.le_of_ble_eq_true rfl⟩) hK hN hP hD [2, 7, 6, 8] rfl (by decide) 2 3 rfl rfl rfl hl.1 rfl (Nat.le_of_ble_eq_true rfl) dX5_readThing_197 ⟨Nat.zero_le _, Nat.zero_le _⟩) hP hD hS hA [2, 7, 6, 8] [0, 1, 3, 4, 5] rfl rfl (by decide) (by decide) [0, 1, 5, 2, 3, 4, 7, 6, 8] (by decide) rfl rfl (fun H locs hP hD hS => ?_)
                        refine lv_iconst (v := 1) hx hb dX5_readThing_200 (by decide) ?_
                        cases hok
                        subst hQe; exact W.zret hx hb hr rfl (fun t ht hW => ⟨⟨_, (), rfl, rfl, by rw [ht]; exact hP, va_K.moved hW.alike hK, hD⟩, hS.F ht⟩) hS.2.2 dX5_readThing_201
                      · have hok := k_neg c170 hok
                        exact J173 vR_j11_141 vR_141 H locs ls hP hD hS (lv_sub hl [] rfl) hok
                · have hok := k_pos c132 hok
                  refine lv_iconst (v := 0) hx hb dX5_readThing_135 (by decide) ?_
                  cases hok
                  subst hQe; exact W.zret hx hb hr rfl (fun t ht hW => ⟨⟨_, (), rfl, rfl, by rw [ht]; exact hP, va_K.moved hW.alike hK, hD⟩, hS.F ht⟩) hS.2.2 dX5_readThing_136
              · have hok := k_neg c113 hok
                refine lv_aload_n hx hb dX5_readThing_116 rfl (lv_at hl 4 rfl) ?_
                refine lv_iconst (v := 3) hx hb dX5_readThing_117 (by decide) ?_
                obtain ⟨⟨r118, vR_118⟩, hc118, hok⟩ := k_bind hok
                try dsimp only at hok
                refine kCi (wc := (wX5_fails cy aR qR aH aH vR_j11_66 vR_85)) (wc2 := (wX5_fails cy aR qR aH aH vR_j11_66 vR_118)) (wr := [(qR 0, rB cy 900 vR_tape), (aH, oX4 vH qH), (qR 3, rJ cy 4 vR_ringNames), (qR 4, rJ cy 7 vR_thingNames), (qH 9, rI cy 4 vH_places), (qH 16, rI cy 7 vH_firstCells), (qH 14, rI cy 7 vH_kinds), (qH 15, rI cy 7 vH_sizes)]) (ws2 := (wX5_readThing cy aR qR aH qH aH vR_j11_66 vR_118 vR_tape vH vR_ringNames vR_thingNames vH_places vH_firstCells vH_kinds vH_sizes)) (kRunV (As := [.int 3]) (rest := []) ⟨hx, hb, hml, hown, ht0⟩ (kX5_fails l D cy _ aR qR aH vR_j11_66 vR_85 (3 : Int32) r118 vR_118 hc118 _ rfl) (cwV 1 ht0 (gV wd332 wd333 wd334 wd276 wd335) rfl rfl rfl (by decide +kernel) ⟨Nat.le_of_ble_eq_true rfl, Nat.le_of_ble_eq_true rfl⟩) hK hN hP hD [0] rfl (by decide) 0 4 rfl rfl rfl hl.1 rfl (Nat.le_of_ble_eq_true rfl) dX5_readThing_118 ⟨Nat.zero_le _, Nat.zero_le _⟩) hP hD hS hA [0] [1, 2, 3, 4, 5, 6, 7, 8] rfl rfl (by decide) (by decide) [8, 0, 1, 2, 3, 4, 5, 6, 7] (by decide) rfl rfl (fun H locs hP hD hS => ?_)
                obtain ⟨g121, hok⟩ := gd_some hok
                cases hok
                subst hQe; exact W.zret hx hb hr (isB_nar g121) (fun t ht hW => ⟨⟨_, (), rfl, rfl, by rw [ht]; exact hP, va_K.moved hW.alike hK, hD⟩, hS.F ht⟩) hS.2.2 dX5_readThing_121
            · have hok := k_pos c88 hok
              exact J91 vR_j11_66 vR_85 H locs ls hP hD hS (lv_sub hl [] rfl) hok
      · have hok := k_pos c36 hok
        exact J39 vR_j11_33 vR_33 H locs ls hP hD hS (lv_sub hl [] rfl) hok
  · have hok := k_neg c12 hok
    refine lv_iconst (v := 0) hx hb dX5_readThing_15 (by decide) ?_
    cases hok
    subst hQe; exact W.zret hx hb hr rfl (fun t ht hW => ⟨⟨_, (), rfl, rfl, by rw [ht]; exact hP, va_K.moved hW.alike hK, hD⟩, hS.F ht⟩) hS.2.2 dX5_readThing_16
def wsX7_add : List Cond := .code yX7_add cX7_add 5 none :: W0
abbrev wX7_add (cy : Nat → ClassId) (aU : Nat) (qU : Nat → Nat) (vU : Nat → Int32) (vU_things : Nat → Int32) (vU_cells : Nat → Int32) (vU_nights : Nat → Int32) (vU_worths : Nat → Int32) : va_W := [(aU, oX7 vU qU), (qU 1, rI cy 6 vU_things), (qU 2, rI cy 6 vU_cells), (qU 3, rI cy 6 vU_nights), (qU 4, rI cy 6 vU_worths)]
set_option maxHeartbeats 4000000 in
set_option maxRecDepth 100000 in
theorem kX7_add (l : Launch) (D : va_G) (cy : Nat → ClassId) (sz : Nat) (aU : Nat) (qU : Nat → Nat) (vU : Nat → Int32) (vU_things : Nat → Int32) (vU_cells : Nat → Int32) (vU_nights : Nat → Int32) (vU_worths : Nat → Int32) (x1 : Int32) (x2 : Int32) (x3 : Int32) (x4 : Int32) (z_vU : Nat → Int32) (z_vU_things : Nat → Int32) (z_vU_cells : Nat → Int32) (z_vU_nights : Nat → Int32) (z_vU_worths : Nat → Int32) (hok : fX7_add vU vU_things vU_cells vU_nights vU_worths x1 x2 x3 x4 = some (z_vU, z_vU_things, z_vU_cells, z_vU_nights, z_vU_worths)) (A : Nat → Prop) (hAe : va_A (wX7_add cy aU qU vU vU_things vU_cells vU_nights vU_worths) sz = A) : Met l yX7_add wsX7_add ({ frames := 0, cells := 0, slots := 0, locals := 0 } : Room) (kPre D cy [.ref aU, .int x1, .int x2, .int x3, .int x4] (wX7_add cy aU qU vU vU_things vU_cells vU_nights vU_worths) sz) (kQv D cy A (wX7_add cy aU qU z_vU z_vU_things z_vU_cells z_vU_nights z_vU_worths)) 0 0 A := by
  refine Met.ofW (cc := cX7_add) (maxL := 5) (ret := none) (by decide) rfl ?_
  intro p e s m args below meth c s₁ B hml hv
  obtain ⟨rfl, hsz, hP, hK, hD0, hN⟩ := hv
  have hx := B.exec
  have hb := B.bytes
  have hr := B.returns
  have ht0 : ∀ w ∈ W0, w.before _ s = true := fun w h => atoms_spec (ws := wsX7_add) B.pre w (List.mem_cons_of_mem _ h)
  have hown : s.vm.findClass RX7 = some m.cls := findClass_of_methodNamed B.named
  have hlocks := B.notSynchronized
  subst hsz
  have hD : va_D A (wX7_add cy aU qU vU vU_things vU_cells vU_nights vU_worths) := by rw [← hAe]; exact hD0.self
  have hA : ∀ q : Nat, s.heap.size ≤ q → A q := fun q h => by rw [← hAe]; exact Or.inr h
  have hS : va_S A s.heap s.heap [] := va_S.rf
  have hl := lv_entry ([.ref aU, .int x1, .int x2, .int x3, .int x4]) (n := 5) (Nat.le_of_ble_eq_true rfl)
  rw [lg_entry_eq]
  generalize (lg_sl ([.ref aU, .int x1, .int x2, .int x3, .int x4]) ++ List.replicate (5 - (lg_sl ([.ref aU, .int x1, .int x2, .int x3, .int x4])).length) Slot.unset).toArray = ls at hl ⊢
  have hl : lv_has ls 5 [(0, .ref aU), (1, .int x1), (2, .int x2), (3, .int x3), (4, .int x4)] := hl
  generalize hQe : MQ below (kQv D cy A (wX7_add cy aU qU z_vU z_vU_things z_vU_cells z_vU_nights z_vU_worths)) ([.ref aU, .int x1, .int x2, .int x3, .int x4] : List Value).toArray s 0 0 A = Q
  have J16 : ∀ (H : Heap) (locs : List Loc) (ls : Array Slot), va_P D vwCl (wX7_add cy aU qU vU vU_things vU_cells vU_nights vU_worths) H → va_D A (wX7_add cy aU qU vU vU_things vU_cells vU_nights vU_worths) → va_S A s.heap H locs → lv_has ls 5 [] → fX7_add_J16 vU vU_things vU_cells vU_nights vU_worths = some (z_vU, z_vU_things, z_vU_cells, z_vU_nights, z_vU_worths) → W p l e ({ frames := 0, cells := 0, slots := 0, locals := 0 } : Room) s m ([.ref aU, .int x1, .int x2, .int x3, .int x4] : List Value).toArray below meth c H locs 0 0 Q (F0 m 16 ls []) := by
    intro  H locs ls hP hD hS hl hok
    unfold fX7_add_J16 at hok
    cases hok
    subst hQe; exact W.vret hx hb hr (fun t ht hW => ⟨⟨(), rfl, trivial, by rw [ht]; exact hP, va_K.moved hW.alike hK, hD⟩, hS.F ht⟩) hS.2.2 dX7_add_16
  unfold fX7_add at hok
  obtain ⟨H, hH⟩ : ∃ H, H = s.heap := ⟨_, rfl⟩
  obtain ⟨locs, hlc⟩ : ∃ x : List Loc, x = [] := ⟨_, rfl⟩
  have hP : va_P D vwCl (wX7_add cy aU qU vU vU_things vU_cells vU_nights vU_worths) H := by rw [hH]; exact hP
  have hS : va_S A s.heap H locs := by rw [hH, hlc]; exact hS
  rw [show W p l e _ s m _ below meth c s.heap [] = W p l e _ s m _ below meth c H locs from by rw [hH, hlc]]
  refine lv_aload_n hx hb dX7_add_0 rfl (lv_at hl 0 rfl) ?_
  refine va_get (D := D) (ci := 6) (v := .int (vU 0)) (C := RX7) (T := TX7) (N := 5) hx hb ht0 niX7 hown hK hP 0 rfl rfl 0 (by decide) (ht0 _ wd202) (fun _ h9 => h9) rfl dX7_add_1 ?_
  refine lv_if_lt (tgt := 16) hx hb dX7_add_4 (by decide) (fun c4 => ?_) (fun c4 => ?_)
  · have hok := k_pos c4 hok
    exact J16  H locs ls hP hD hS (lv_sub hl [] rfl) hok
  · have hok := k_neg c4 hok
    refine lv_aload_n hx hb dX7_add_7 rfl (lv_at hl 0 rfl) ?_
    refine va_get (D := D) (ci := 6) (v := .int (vU 0)) (C := RX7) (T := TX7) (N := 5) hx hb ht0 niX7 hown hK hP 0 rfl rfl 0 (by decide) (ht0 _ wd202) (fun _ h9 => h9) rfl dX7_add_8 ?_
    refine lv_bipush (v := 6) hx hb dX7_add_11 (by decide) ?_
    refine lv_icmp_lt (tgt := 17) hx hb dX7_add_13 (by decide) (fun c13 => ?_) (fun c13 => ?_)
    · have hok := k_pos c13 hok
      refine lv_aload_n hx hb dX7_add_17 rfl (lv_at hl 0 rfl) ?_
      refine va_get (D := D) (ci := 6) (v := .ref (qU 1)) (C := RX7) (T := TX7) (N := 5) hx hb ht0 niX7 hown hK hP 0 rfl rfl 1 (by decide) (ht0 _ wd199) (fun _ h9 => h9) rfl dX7_add_18 ?_
      refine lv_aload_n hx hb dX7_add_21 rfl (lv_at hl 0 rfl) ?_
      refine va_get (D := D) (ci := 6) (v := .int (vU 0)) (C := RX7) (T := TX7) (N := 5) hx hb ht0 niX7 hown hK hP 0 rfl rfl 0 (by decide) (ht0 _ wd202) (fun _ h9 => h9) rfl dX7_add_22 ?_
      refine lv_iload_n hx hb dX7_add_25 rfl (lv_at hl 1 rfl) ?_
      obtain ⟨g26, hok⟩ := gd_some hok
      refine va_iast hx hb hK hP hD hS 1 0 rfl rfl (okI_in g26) dX7_add_26 (fun H locs hP hD hS => ?_)
      have hP : va_P D vwCl (wX7_add cy aU qU vU (upd vU_things (vU 0).toNatClampNeg x1) vU_cells vU_nights vU_worths) H := hP
      have hD : va_D A (wX7_add cy aU qU vU (upd vU_things (vU 0).toNatClampNeg x1) vU_cells vU_nights vU_worths) := hD
      refine lv_aload_n hx hb dX7_add_27 rfl (lv_at hl 0 rfl) ?_
      refine va_get (D := D) (ci := 6) (v := .ref (qU 2)) (C := RX7) (T := TX7) (N := 5) hx hb ht0 niX7 hown hK hP 0 rfl rfl 2 (by decide) (ht0 _ wd201) (fun _ h9 => h9) rfl dX7_add_28 ?_
      refine lv_aload_n hx hb dX7_add_31 rfl (lv_at hl 0 rfl) ?_
      refine va_get (D := D) (ci := 6) (v := .int (vU 0)) (C := RX7) (T := TX7) (N := 5) hx hb ht0 niX7 hown hK hP 0 rfl rfl 0 (by decide) (ht0 _ wd202) (fun _ h9 => h9) rfl dX7_add_32 ?_
      refine lv_iload_n hx hb dX7_add_35 rfl (lv_at hl 2 rfl) ?_
      obtain ⟨g36, hok⟩ := gd_some hok
      refine va_iast hx hb hK hP hD hS 2 0 rfl rfl (okI_in g36) dX7_add_36 (fun H locs hP hD hS => ?_)
      have hP : va_P D vwCl (wX7_add cy aU qU vU (upd vU_things (vU 0).toNatClampNeg x1) (upd vU_cells (vU 0).toNatClampNeg x2) vU_nights vU_worths) H := hP
      have hD : va_D A (wX7_add cy aU qU vU (upd vU_things (vU 0).toNatClampNeg x1) (upd vU_cells (vU 0).toNatClampNeg x2) vU_nights vU_worths) := hD
      refine lv_aload_n hx hb dX7_add_37 rfl (lv_at hl 0 rfl) ?_
      refine va_get (D := D) (ci := 6) (v := .ref (qU 3)) (C := RX7) (T := TX7) (N := 5) hx hb ht0 niX7 hown hK hP 0 rfl rfl 3 (by decide) (ht0 _ wd203) (fun _ h9 => h9) rfl dX7_add_38 ?_
      refine lv_aload_n hx hb dX7_add_41 rfl (lv_at hl 0 rfl) ?_
      refine va_get (D := D) (ci := 6) (v := .int (vU 0)) (C := RX7) (T := TX7) (N := 5) hx hb ht0 niX7 hown hK hP 0 rfl rfl 0 (by decide) (ht0 _ wd202) (fun _ h9 => h9) rfl dX7_add_42 ?_
      refine lv_iload_n hx hb dX7_add_45 rfl (lv_at hl 3 rfl) ?_
      obtain ⟨g46, hok⟩ := gd_some hok
      refine va_iast hx hb hK hP hD hS 3 0 rfl rfl (okI_in g46) dX7_add_46 (fun H locs hP hD hS => ?_)
      have hP : va_P D vwCl (wX7_add cy aU qU vU (upd vU_things (vU 0).toNatClampNeg x1) (upd vU_cells (vU 0).toNatClampNeg x2) (upd vU_nights (vU 0).toNatClampNeg x3) vU_worths) H := hP
      have hD : va_D A (wX7_add cy aU qU vU (upd vU_things (vU 0).toNatClampNeg x1) (upd vU_cells (vU 0).toNatClampNeg x2) (upd vU_nights (vU 0).toNatClampNeg x3) vU_worths) := hD
      refine lv_aload_n hx hb dX7_add_47 rfl (lv_at hl 0 rfl) ?_
      refine va_get (D := D) (ci := 6) (v := .ref (qU 4)) (C := RX7) (T := TX7) (N := 5) hx hb ht0 niX7 hown hK hP 0 rfl rfl 4 (by decide) (ht0 _ wd205) (fun _ h9 => h9) rfl dX7_add_48 ?_
      refine lv_aload_n hx hb dX7_add_51 rfl (lv_at hl 0 rfl) ?_
      refine va_get (D := D) (ci := 6) (v := .int (vU 0)) (C := RX7) (T := TX7) (N := 5) hx hb ht0 niX7 hown hK hP 0 rfl rfl 0 (by decide) (ht0 _ wd202) (fun _ h9 => h9) rfl dX7_add_52 ?_
      refine lv_iload hx hb dX7_add_55 (lv_at hl 4 rfl) ?_
      obtain ⟨g57, hok⟩ := gd_some hok
      refine va_iast hx hb hK hP hD hS 4 0 rfl rfl (okI_in g57) dX7_add_57 (fun H locs hP hD hS => ?_)
      have hP : va_P D vwCl (wX7_add cy aU qU vU (upd vU_things (vU 0).toNatClampNeg x1) (upd vU_cells (vU 0).toNatClampNeg x2) (upd vU_nights (vU 0).toNatClampNeg x3) (upd vU_worths (vU 0).toNatClampNeg x4)) H := hP
      have hD : va_D A (wX7_add cy aU qU vU (upd vU_things (vU 0).toNatClampNeg x1) (upd vU_cells (vU 0).toNatClampNeg x2) (upd vU_nights (vU 0).toNatClampNeg x3) (upd vU_worths (vU 0).toNatClampNeg x4)) := hD
      refine lv_aload_n hx hb dX7_add_58 rfl (lv_at hl 0 rfl) ?_
      refine lv_dup hx hb dX7_add_59 rfl ?_
      refine va_get (D := D) (ci := 6) (v := .int (vU 0)) (C := RX7) (T := TX7) (N := 5) hx hb ht0 niX7 hown hK hP 0 rfl rfl 0 (by decide) (ht0 _ wd202) (fun _ h9 => h9) rfl dX7_add_60 ?_
      refine lv_iconst (v := 1) hx hb dX7_add_63 (by decide) ?_
      refine lv_iadd hx hb dX7_add_64 ?_
      refine va_put (D := D) (ci := 6) (v := .int ((vU 0) + (1 : Int32))) (ty := .int) (C := RX7) (T := TX7) (N := 5) hx hb ht0 niX7 tyX7 tyX7_ok nmX7 hown hK hP hD hS 0 rfl rfl 0 (by decide) (ht0 _ wd202) (fun _ h9 => h9) rfl (by decide +kernel) rfl rfl (Nat.le_of_ble_eq_true rfl) dX7_add_65 (fun H locs hP hD hS => ?_)
      have hP : va_P D vwCl (wX7_add cy aU qU (upd vU 0 ((vU 0) + (1 : Int32))) (upd vU_things (vU 0).toNatClampNeg x1) (upd vU_cells (vU 0).toNatClampNeg x2) (upd vU_nights (vU 0).toNatClampNeg x3) (upd vU_worths (vU 0).toNatClampNeg x4)) H := hP
      have hD : va_D A (wX7_add cy aU qU (upd vU 0 ((vU 0) + (1 : Int32))) (upd vU_things (vU 0).toNatClampNeg x1) (upd vU_cells (vU 0).toNatClampNeg x2) (upd vU_nights (vU 0).toNatClampNeg x3) (upd vU_worths (vU 0).toNatClampNeg x4)) := hD
      cases hok
      subst hQe; exact W.vret hx hb hr (fun t ht hW => ⟨⟨(), rfl, trivial, by rw [ht]; exact hP, va_K.moved hW.alike hK, hD⟩, hS.F ht⟩) hS.2.2 dX7_add_68
    · have hok := k_neg c13 hok
      exact J16  H locs ls hP hD hS (lv_sub hl [] rfl) hok
def wsX5_readWant : List Cond := .code yX5_readWant cX5_readWant 6 (some .boolean) :: W0
abbrev wX5_readWant (cy : Nat → ClassId) (aR : Nat) (qR : Nat → Nat) (aH : Nat) (qH : Nat → Nat) (qU : Nat → Nat) (fvR_2 : Nat) (vR_j11 : Int64) (vR : Nat → Int32) (vR_tape : Nat → Int32) (vH : Nat → Int32) (vR_thingNames : Nat → Int64) (vR_ringNames : Nat → Int64) (vH_places : Nat → Int32) (vU : Nat → Int32) (vU_things : Nat → Int32) (vU_cells : Nat → Int32) (vU_nights : Nat → Int32) (vU_worths : Nat → Int32) : va_W := [(aR, oX5 vR qR vR_j11 fvR_2), (qR 0, rB cy 900 vR_tape), (aH, oX4 vH qH), (qR 4, rJ cy 7 vR_thingNames), (qR 3, rJ cy 4 vR_ringNames), (qH 9, rI cy 4 vH_places), (qH 7, oX7 vU qU), (qU 1, rI cy 6 vU_things), (qU 2, rI cy 6 vU_cells), (qU 3, rI cy 6 vU_nights), (qU 4, rI cy 6 vU_worths)]
set_option maxHeartbeats 4000000 in
set_option maxRecDepth 100000 in
theorem kX5_readWant (l : Launch) (D : va_G) (cy : Nat → ClassId) (ad : (Nat → Nat) × (Nat → Nat)) (sz : Nat) (aR : Nat) (qR : Nat → Nat) (aH : Nat) (qH : Nat → Nat) (qU : Nat → Nat) (vR_j11 : Int64) (vR : Nat → Int32) (vR_tape : Nat → Int32) (vH : Nat → Int32) (vR_thingNames : Nat → Int64) (vR_ringNames : Nat → Int64) (vH_places : Nat → Int32) (vU : Nat → Int32) (vU_things : Nat → Int32) (vU_cells : Nat → Int32) (vU_nights : Nat → Int32) (vU_worths : Nat → Int32) (zr : Int32) (z_vR_j11 : Int64) (z_vR : Nat → Int32) (z_vU : Nat → Int32) (z_vU_things : Nat → Int32) (z_vU_cells : Nat → Int32) (z_vU_nights : Nat → Int32) (z_vU_worths : Nat → Int32) (hok : fX5_readWant vR_j11 vR vR_tape vH vR_thingNames vR_ringNames vH_places vU vU_things vU_cells vU_nights vU_worths = some (zr, z_vR_j11, z_vR, z_vU, z_vU_things, z_vU_cells, z_vU_nights, z_vU_worths)) (A : Nat → Prop) (hAe : va_A (wX5_readWant cy aR qR aH qH qU aH vR_j11 vR vR_tape vH vR_thingNames vR_ringNames vH_places vU vU_things vU_cells vU_nights vU_worths) sz = A) : Met l yX5_readWant wsX5_readWant ({ frames := 7, cells := 0, slots := 0, locals := 153 } : Room) (kPreS D cy ad [.ref aR] (wX5_readWant cy aR qR aH qH qU aH vR_j11 vR vR_tape vH vR_thingNames vR_ringNames vH_places vU vU_things vU_cells vU_nights vU_worths) sz A) (kQi D cy zr A (wX5_readWant cy aR qR aH qH qU aH z_vR_j11 z_vR vR_tape vH vR_thingNames vR_ringNames vH_places z_vU z_vU_things z_vU_cells z_vU_nights z_vU_worths)) 0 0 A := by
  refine Met.ofW (cc := cX5_readWant) (maxL := 6) (ret := (some .boolean)) (by decide) rfl ?_
  intro p e s m args below meth c s₁ B hml hv
  obtain ⟨rfl, ⟨hsz, hP, hK, hD0, hN⟩, hSt⟩ := hv
  have hx := B.exec
  have hb := B.bytes
  have hr := B.returns
  have ht0 : ∀ w ∈ W0, w.before _ s = true := fun w h => atoms_spec (ws := wsX5_readWant) B.pre w (List.mem_cons_of_mem _ h)
  have hown : s.vm.findClass RX5 = some m.cls := findClass_of_methodNamed B.named
  have hlocks := B.notSynchronized
  subst hsz
  have hD : va_D A (wX5_readWant cy aR qR aH qH qU aH vR_j11 vR vR_tape vH vR_thingNames vR_ringNames vH_places vU vU_things vU_cells vU_nights vU_worths) := by rw [← hAe]; exact hD0.self
  have hA : ∀ q : Nat, s.heap.size ≤ q → A q := fun q h => by rw [← hAe]; exact Or.inr h
  have hS : va_S A s.heap s.heap [] := va_S.rf
  have hl := lv_entry ([.ref aR]) (n := 6) (Nat.le_of_ble_eq_true rfl)
  rw [lg_entry_eq]
  generalize (lg_sl ([.ref aR]) ++ List.replicate (6 - (lg_sl ([.ref aR])).length) Slot.unset).toArray = ls at hl ⊢
  have hl : lv_has ls 6 [(0, .ref aR)] := hl
  generalize hQe : MQ below (kQi D cy zr A (wX5_readWant cy aR qR aH qH qU aH z_vR_j11 z_vR vR_tape vH vR_thingNames vR_ringNames vH_places z_vU z_vU_things z_vU_cells z_vU_nights z_vU_worths)) ([.ref aR] : List Value).toArray s 0 0 A = Q
  have J122 : ∀ (vR_11_122 : Int64) (vR_122 : Nat → Int32), ∀ (H : Heap) (locs : List Loc) (ls : Array Slot), va_P D vwCl (wX5_readWant cy aR qR aH qH qU aH vR_11_122 vR_122 vR_tape vH vR_thingNames vR_ringNames vH_places vU vU_things vU_cells vU_nights vU_worths) H → va_D A (wX5_readWant cy aR qR aH qH qU aH vR_11_122 vR_122 vR_tape vH vR_thingNames vR_ringNames vH_places vU vU_things vU_cells vU_nights vU_worths) → va_S A s.heap H locs → lv_has ls 6 [] → fX5_readWant_J122 vU vU_things vU_cells vU_nights vU_worths vR_11_122 vR_122 = some (zr, z_vR_j11, z_vR, z_vU, z_vU_things, z_vU_cells, z_vU_nights, z_vU_worths) → W p l e ({ frames := 7, cells := 0, slots := 0, locals := 153 } : Room) s m ([.ref aR] : List Value).toArray below meth c H locs 0 0 Q (F0 m 122 ls []) := by
    intro vR_11_122 vR_122 H locs ls hP hD hS hl hok
    unfold fX5_readWant_J122 at hok
    refine lv_iconst (v := 0) hx hb dX5_readWant_122 (by decide) ?_
    cases hok
    subst hQe; exact W.zret hx hb hr rfl (fun t ht hW => ⟨⟨_, (), rfl, rfl, by rw [ht]; exact hP, va_K.moved hW.alike hK, hD⟩, hS.F ht⟩) hS.2.2 dX5_readWant_123
  have J96 : ∀ (vR_11_96 : Int64) (vR_96 : Nat → Int32), ∀ (H : Heap) (locs : List Loc) (ls : Array Slot), va_P D vwCl (wX5_readWant cy aR qR aH qH qU aH vR_11_96 vR_96 vR_tape vH vR_thingNames vR_ringNames vH_places vU vU_things vU_cells vU_nights vU_worths) H → va_D A (wX5_readWant cy aR qR aH qH qU aH vR_11_96 vR_96 vR_tape vH vR_thingNames vR_ringNames vH_places vU vU_things vU_cells vU_nights vU_worths) → va_S A s.heap H locs → lv_has ls 6 [] → fX5_readWant_J96 vU vU_things vU_cells vU_nights vU_worths vR_11_96 vR_96 = some (zr, z_vR_j11, z_vR, z_vU, z_vU_things, z_vU_cells, z_vU_nights, z_vU_worths) → W p l e ({ frames := 7, cells := 0, slots := 0, locals := 153 } : Room) s m ([.ref aR] : List Value).toArray below meth c H locs 0 0 Q (F0 m 96 ls []) := by
    intro vR_11_96 vR_96 H locs ls hP hD hS hl hok
    unfold fX5_readWant_J96 at hok
    refine lv_iconst (v := 0) hx hb dX5_readWant_96 (by decide) ?_
    cases hok
    subst hQe; exact W.zret hx hb hr rfl (fun t ht hW => ⟨⟨_, (), rfl, rfl, by rw [ht]; exact hP, va_K.moved hW.alike hK, hD⟩, hS.F ht⟩) hS.2.2 dX5_readWant_97
  have J64 : ∀ (vR_11_64 : Int64) (vR_64 : Nat → Int32), ∀ (H : Heap) (locs : List Loc) (ls : Array Slot), va_P D vwCl (wX5_readWant cy aR qR aH qH qU aH vR_11_64 vR_64 vR_tape vH vR_thingNames vR_ringNames vH_places vU vU_things vU_cells vU_nights vU_worths) H → va_D A (wX5_readWant cy aR qR aH qH qU aH vR_11_64 vR_64 vR_tape vH vR_thingNames vR_ringNames vH_places vU vU_things vU_cells vU_nights vU_worths) → va_S A s.heap H locs → lv_has ls 6 [] → fX5_readWant_J64 vU vU_things vU_cells vU_nights vU_worths vR_11_64 vR_64 = some (zr, z_vR_j11, z_vR, z_vU, z_vU_things, z_vU_cells, z_vU_nights, z_vU_worths) → W p l e ({ frames := 7, cells := 0, slots := 0, locals := 153 } : Room) s m ([.ref aR] : List Value).toArray below meth c H locs 0 0 Q (F0 m 64 ls []) := by
    intro vR_11_64 vR_64 H locs ls hP hD hS hl hok
    unfold fX5_readWant_J64 at hok
    refine lv_iconst (v := 0) hx hb dX5_readWant_64 (by decide) ?_
    cases hok
    subst hQe; exact W.zret hx hb hr rfl (fun t ht hW => ⟨⟨_, (), rfl, rfl, by rw [ht]; exact hP, va_K.moved hW.alike hK, hD⟩, hS.F ht⟩) hS.2.2 dX5_readWant_65
  have J33 : ∀ (vR_11_33 : Int64) (vR_33 : Nat → Int32), ∀ (H : Heap) (locs : List Loc) (ls : Array Slot), va_P D vwCl (wX5_readWant cy aR qR aH qH qU aH vR_11_33 vR_33 vR_tape vH vR_thingNames vR_ringNames vH_places vU vU_things vU_cells vU_nights vU_worths) H → va_D A (wX5_readWant cy aR qR aH qH qU aH vR_11_33 vR_33 vR_tape vH vR_thingNames vR_ringNames vH_places vU vU_things vU_cells vU_nights vU_worths) → va_S A s.heap H locs → lv_has ls 6 [] → fX5_readWant_J33 vU vU_things vU_cells vU_nights vU_worths vR_11_33 vR_33 = some (zr, z_vR_j11, z_vR, z_vU, z_vU_things, z_vU_cells, z_vU_nights, z_vU_worths) → W p l e ({ frames := 7, cells := 0, slots := 0, locals := 153 } : Room) s m ([.ref aR] : List Value).toArray below meth c H locs 0 0 Q (F0 m 33 ls []) := by
    intro vR_11_33 vR_33 H locs ls hP hD hS hl hok
    unfold fX5_readWant_J33 at hok
    refine lv_iconst (v := 0) hx hb dX5_readWant_33 (by decide) ?_
    cases hok
    subst hQe; exact W.zret hx hb hr rfl (fun t ht hW => ⟨⟨_, (), rfl, rfl, by rw [ht]; exact hP, va_K.moved hW.alike hK, hD⟩, hS.F ht⟩) hS.2.2 dX5_readWant_34
  unfold fX5_readWant at hok
  obtain ⟨H, hH⟩ : ∃ H, H = s.heap := ⟨_, rfl⟩
  obtain ⟨locs, hlc⟩ : ∃ x : List Loc, x = [] := ⟨_, rfl⟩
  have hP : va_P D vwCl (wX5_readWant cy aR qR aH qH qU aH vR_j11 vR vR_tape vH vR_thingNames vR_ringNames vH_places vU vU_things vU_cells vU_nights vU_worths) H := by rw [hH]; exact hP
  have hS : va_S A s.heap H locs := by rw [hH, hlc]; exact hS
  rw [show W p l e _ s m _ below meth c s.heap [] = W p l e _ s m _ below meth c H locs from by rw [hH, hlc]]
  refine lv_aload_n hx hb dX5_readWant_0 rfl (lv_at hl 0 rfl) ?_
  obtain ⟨⟨vR_j11_1, vR_1⟩, hc1, hok⟩ := k_bind hok
  try dsimp only at hok
  refine kCv (wc := (wX5_step cy aR qR aH aH vR_j11 vR vR_tape)) (wc2 := (wX5_step cy aR qR aH aH vR_j11_1 vR_1 vR_tape)) (wr := [(aH, oX4 vH qH), (qR 4, rJ cy 7 vR_thingNames), (qR 3, rJ cy 4 vR_ringNames), (qH 9, rI cy 4 vH_places), (qH 7, oX7 vU qU), (qU 1, rI cy 6 vU_things), (qU 2, rI cy 6 vU_cells), (qU 3, rI cy 6 vU_nights), (qU 4, rI cy 6 vU_worths)]) (ws2 := (wX5_readWant cy aR qR aH qH qU aH vR_j11_1 vR_1 vR_tape vH vR_thingNames vR_ringNames vH_places vU vU_things vU_cells vU_nights vU_worths)) (kRunV (As := []) (rest := []) ⟨hx, hb, hml, hown, ht0⟩ (kX5_step l D cy _ aR qR aH vR_j11 vR vR_tape vR_j11_1 vR_1 hc1 _ rfl) (cwV 0 ht0 (gV wd328 wd329 wd330 wd276 wd331) rfl rfl rfl (by decide +kernel) ⟨Nat.le_of_ble_eq_true rfl, Nat.le_of_ble_eq_true rfl⟩) hK hN hP hD [0, 1] rfl (by decide) 0 4 rfl rfl rfl hl.1 rfl (Nat.le_of_ble_eq_true rfl) dX5_readWant_1 ⟨Nat.zero_le _, Nat.zero_le _⟩) hP hD hS hA [0, 1] [2, 3, 4, 5, 6, 7, 8, 9, 10] rfl rfl (by decide) (by decide) [9, 10, 0, 1, 2, 3, 4, 5, 6, 7, 8] (by decide) rfl rfl (fun H locs hP hD hS => ?_)
  refine lv_aload_n hx hb dX5_readWant_4 rfl (lv_at hl 0 rfl) ?_
  refine lv_aload_n hx hb dX5_readWant_5 rfl (lv_at hl 0 rfl) ?_
  refine va_get (D := D) (ci := 4) (v := .ref (qR 4)) (C := RX5) (T := TX5) (N := 13) hx hb ht0 niX5 hown hK hP 0 rfl rfl 4 (by decide) (ht0 _ wd362) (fun _ h9 => h9) rfl dX5_readWant_6 ?_
  refine lv_aload_n hx hb dX5_readWant_9 rfl (lv_at hl 0 rfl) ?_
  refine va_get (D := D) (ci := 4) (v := .ref aH) (C := RX5) (T := TX5) (N := 13) hx hb ht0 niX5 hown hK hP 0 rfl rfl 2 (by decide) (ht0 _ wd266) (fun _ h9 => h9) rfl dX5_readWant_10 ?_
  refine va_get (D := D) (ci := 3) (v := .int (vH 5)) (C := RX4) (T := TX4) (N := 20) hx hb ht0 niX4 hown hK hP 2 rfl rfl 5 (by decide) (ht0 _ wd357) (fun _ h9 => h9) rfl dX5_readWant_13 ?_
  obtain ⟨⟨r16, vR_j11_16, vR_16⟩, hc16, hok⟩ := k_bind hok
  try dsimp only at hok
  refine kCi (wc := (wX5_takeToldName cy aR (qR 4) qR aH aH vR_j11_1 vR_1 vR_tape 7 vR_thingNames)) (wc2 := (wX5_takeToldName cy aR (qR 4) qR aH aH vR_j11_16 vR_16 vR_tape 7 vR_thingNames)) (wr := [(aH, oX4 vH qH), (qR 3, rJ cy 4 vR_ringNames), (qH 9, rI cy 4 vH_places), (qH 7, oX7 vU qU), (qU 1, rI cy 6 vU_things), (qU 2, rI cy 6 vU_cells), (qU 3, rI cy 6 vU_nights), (qU 4, rI cy 6 vU_worths)]) (ws2 := (wX5_readWant cy aR qR aH qH qU aH vR_j11_16 vR_16 vR_tape vH vR_thingNames vR_ringNames vH_places vU vU_things vU_cells vU_nights vU_worths)) (kRunVS (As := [.ref (qR 4), .int (vH 5)]) (rest := []) ⟨hx, hb, hml, hown, ht0⟩ (kX5_takeToldName l D cy ad _ aR (qR 4) qR aH vR_j11_1 vR_1 vR_tape 7 vR_thingNames (vH 5) r16 vR_j11_16 vR_16 hc16 _ rfl) (cwV 2 ht0 (gV wd387 wd388 wd389 wd276 wd390) rfl rfl rfl (by decide +kernel) ⟨Nat.le_of_ble_eq_true rfl, Nat.le_of_ble_eq_true rfl⟩) hK hN hP hD hSt hS hA [0, 1, 3] rfl (by decide) 0 4 rfl rfl rfl hl.1 rfl (Nat.le_of_ble_eq_true rfl) dX5_readWant_16 ⟨Nat.zero_le _, Nat.zero_le _⟩) hP hD hS hA [0, 1, 3] [2, 4, 5, 6, 7, 8, 9, 10] rfl rfl (by decide) (by decide) [8, 9, 0, 10, 1, 2, 3, 4, 5, 6, 7] (by decide) rfl rfl (fun H locs hP hD hS => ?_)
  refine lv_istore_n (lv' := [(1, .int r16), (0, .ref aR)]) hx hb dX5_readWant_19 rfl hl (by decide) rfl (fun ls hl => ?_)
  refine lv_iload_n hx hb dX5_readWant_20 rfl (lv_at hl 0 rfl) ?_
  refine lv_if_lt (tgt := 33) hx hb dX5_readWant_21 (by decide) (fun c21 => ?_) (fun c21 => ?_)
  · have hok := k_pos c21 hok
    exact J33 vR_j11_16 vR_16 H locs ls hP hD hS (lv_sub hl [] rfl) hok
  · have hok := k_neg c21 hok
    refine lv_aload_n hx hb dX5_readWant_24 rfl (lv_at hl 1 rfl) ?_
    refine va_ldcS (own := RX5) (tx := "in") (index := 246) (q := ad.1 9) hx hb hown (hSt.2.1 (RX5, 246, "in", 9) (List.mem_of_getElem? (i := 17) rfl)) dX5_readWant_25 ?_
    obtain ⟨⟨r27, vR_j11_27, vR_27⟩, hc27, hok⟩ := k_bind hok
    try dsimp only at hok
    refine kCi (wc := (wX5_passes cy aR qR aH aH vR_j11_16 vR_16 vR_tape)) (wc2 := (wX5_passes cy aR qR aH aH vR_j11_27 vR_27 vR_tape)) (wr := [(aH, oX4 vH qH), (qR 4, rJ cy 7 vR_thingNames), (qR 3, rJ cy 4 vR_ringNames), (qH 9, rI cy 4 vH_places), (qH 7, oX7 vU qU), (qU 1, rI cy 6 vU_things), (qU 2, rI cy 6 vU_cells), (qU 3, rI cy 6 vU_nights), (qU 4, rI cy 6 vU_worths)]) (ws2 := (wX5_readWant cy aR qR aH qH qU aH vR_j11_27 vR_27 vR_tape vH vR_thingNames vR_ringNames vH_places vU vU_things vU_cells vU_nights vU_worths)) (kRunVS (As := [.ref (ad.1 9)]) (rest := []) ⟨hx, hb, hml, hown, ht0⟩ (kX5_passes l D cy ad _ aR qR aH vR_j11_16 vR_16 vR_tape 9 r27 vR_j11_27 vR_27 hc27 _ rfl) (cwV 1 ht0 (gV wd341 wd342 wd343 wd276 wd344) rfl rfl rfl (by decide +kernel) ⟨Nat.le_of_ble_eq_true rfl, Nat.le_of_ble_eq_true rfl⟩) hK hN hP hD hSt hS hA [0, 1] rfl (by decide) 0 4 rfl rfl rfl hl.1 rfl (Nat.le_of_ble_eq_true rfl) dX5_readWant_27 ⟨Nat.zero_le _, Nat.zero_le _⟩) hP hD hS hA [0, 1] [2, 3, 4, 5, 6, 7, 8, 9, 10] rfl rfl (by decide) (by decide) [9, 10, 0, 1, 2, 3, 4, 5, 6, 7, 8] (by decide) rfl rfl (fun H locs hP hD hS => ?_)
    refine lv_if_ne (tgt := 35) hx hb dX5_readWant_30 (by decide) (fun c30 => ?_) (fun c30 => ?_)
    · have hok := k_neg c30 hok
      refine lv_aload_n hx hb dX5_readWant_35 rfl (lv_at hl 1 rfl) ?_
      refine lv_aload_n hx hb dX5_readWant_36 rfl (lv_at hl 1 rfl) ?_
      refine va_get (D := D) (ci := 4) (v := .ref (qR 3)) (C := RX5) (T := TX5) (N := 13) hx hb ht0 niX5 hown hK hP 0 rfl rfl 3 (by decide) (ht0 _ wd370) (fun _ h9 => h9) rfl dX5_readWant_37 ?_
      refine lv_aload_n hx hb dX5_readWant_40 rfl (lv_at hl 1 rfl) ?_
      refine va_get (D := D) (ci := 4) (v := .ref aH) (C := RX5) (T := TX5) (N := 13) hx hb ht0 niX5 hown hK hP 0 rfl rfl 2 (by decide) (ht0 _ wd266) (fun _ h9 => h9) rfl dX5_readWant_41 ?_
      refine va_get (D := D) (ci := 3) (v := .int (vH 2)) (C := RX4) (T := TX4) (N := 20) hx hb ht0 niX4 hown hK hP 2 rfl rfl 2 (by decide) (ht0 _ wd360) (fun _ h9 => h9) rfl dX5_readWant_44 ?_
      obtain ⟨⟨r47, vR_j11_47, vR_47⟩, hc47, hok⟩ := k_bind hok
      try dsimp only at hok
      refine kCi (wc := (wX5_takeToldName cy aR (qR 3) qR aH aH vR_j11_27 vR_27 vR_tape 4 vR_ringNames)) (wc2 := (wX5_takeToldName cy aR (qR 3) qR aH aH vR_j11_47 vR_47 vR_tape 4 vR_ringNames)) (wr := [(aH, oX4 vH qH), (qR 4, rJ cy 7 vR_thingNames), (qH 9, rI cy 4 vH_places), (qH 7, oX7 vU qU), (qU 1, rI cy 6 vU_things), (qU 2, rI cy 6 vU_cells), (qU 3, rI cy 6 vU_nights), (qU 4, rI cy 6 vU_worths)]) (ws2 := (wX5_readWant cy aR qR aH qH qU aH vR_j11_47 vR_47 vR_tape vH vR_thingNames vR_ringNames vH_places vU vU_things vU_cells vU_nights vU_worths)) (kRunVS (As := [.ref (qR 3), .int (vH 2)]) (rest := []) ⟨hx, hb, hml, hown, ht0⟩ (kX5_takeToldName l D cy ad _ aR (qR 3) qR aH vR_j11_27 vR_27 vR_tape 4 vR_ringNames (vH 2) r47 vR_j11_47 vR_47 hc47 _ rfl) (cwV 2 ht0 (gV wd387 wd388 wd389 wd276 wd390) rfl rfl rfl (by decide +kernel) ⟨Nat.le_of_ble_eq_true rfl, Nat.le_of_ble_eq_true rfl⟩) hK hN hP hD hSt hS hA [0, 1, 4] rfl (by decide) 0 4 rfl rfl rfl hl.1 rfl (Nat.le_of_ble_eq_true rfl) dX5_readWant_47 ⟨Nat.zero_le _, Nat.zero_le _⟩) hP hD hS hA [0, 1, 4] [2, 3, 5, 6, 7, 8, 9, 10] rfl rfl (by decide) (by decide) [8, 9, 0, 1, 10, 2, 3, 4, 5, 6, 7] (by decide) rfl rfl (fun H locs hP hD hS => ?_)
      refine lv_istore_n (lv' := [(2, .int r47), (1, .int r16), (0, .ref aR)]) hx hb dX5_readWant_50 rfl hl (by decide) rfl (fun ls hl => ?_)
      refine lv_iload_n hx hb dX5_readWant_51 rfl (lv_at hl 0 rfl) ?_
      refine lv_if_lt (tgt := 64) hx hb dX5_readWant_52 (by decide) (fun c52 => ?_) (fun c52 => ?_)
      · have hok := k_pos c52 hok
        exact J64 vR_j11_47 vR_47 H locs ls hP hD hS (lv_sub hl [] rfl) hok
      · have hok := k_neg c52 hok
        refine lv_aload_n hx hb dX5_readWant_55 rfl (lv_at hl 2 rfl) ?_
        refine va_ldcS (own := RX5) (tx := "at") (index := 248) (q := ad.1 0) hx hb hown (hSt.2.1 (RX5, 248, "at", 0) (List.mem_of_getElem? (i := 18) rfl)) dX5_readWant_56 ?_
        obtain ⟨⟨r58, vR_j11_58, vR_58⟩, hc58, hok⟩ := k_bind hok
        try dsimp only at hok
        refine kCi (wc := (wX5_passes cy aR qR aH aH vR_j11_47 vR_47 vR_tape)) (wc2 := (wX5_passes cy aR qR aH aH vR_j11_58 vR_58 vR_tape)) (wr := [(aH, oX4 vH qH), (qR 4, rJ cy 7 vR_thingNames), (qR 3, rJ cy 4 vR_ringNames), (qH 9, rI cy 4 vH_places), (qH 7, oX7 vU qU), (qU 1, rI cy 6 vU_things), (qU 2, rI cy 6 vU_cells), (qU 3, rI cy 6 vU_nights), (qU 4, rI cy 6 vU_worths)]) (ws2 := (wX5_readWant cy aR qR aH qH qU aH vR_j11_58 vR_58 vR_tape vH vR_thingNames vR_ringNames vH_places vU vU_things vU_cells vU_nights vU_worths)) (kRunVS (As := [.ref (ad.1 0)]) (rest := []) ⟨hx, hb, hml, hown, ht0⟩ (kX5_passes l D cy ad _ aR qR aH vR_j11_47 vR_47 vR_tape 0 r58 vR_j11_58 vR_58 hc58 _ rfl) (cwV 1 ht0 (gV wd341 wd342 wd343 wd276 wd344) rfl rfl rfl (by decide +kernel) ⟨Nat.le_of_ble_eq_true rfl, Nat.le_of_ble_eq_true rfl⟩) hK hN hP hD hSt hS hA [0, 1] rfl (by decide) 0 4 rfl rfl rfl hl.1 rfl (Nat.le_of_ble_eq_true rfl) dX5_readWant_58 ⟨Nat.zero_le _, Nat.zero_le _⟩) hP hD hS hA [0, 1] [2, 3, 4, 5, 6, 7, 8, 9, 10] rfl rfl (by decide) (by decide) [9, 10, 0, 1, 2, 3, 4, 5, 6, 7, 8] (by decide) rfl rfl (fun H locs hP hD hS => ?_)
        refine lv_if_ne (tgt := 66) hx hb dX5_readWant_61 (by decide) (fun c61 => ?_) (fun c61 => ?_)
        · have hok := k_neg c61 hok
          refine lv_aload_n hx hb dX5_readWant_66 rfl (lv_at hl 2 rfl) ?_
          refine lv_iconst (v := 0) hx hb dX5_readWant_67 (by decide) ?_
          refine lv_aload_n hx hb dX5_readWant_68 rfl (lv_at hl 2 rfl) ?_
          refine va_get (D := D) (ci := 4) (v := .ref aH) (C := RX5) (T := TX5) (N := 13) hx hb ht0 niX5 hown hK hP 0 rfl rfl 2 (by decide) (ht0 _ wd266) (fun _ h9 => h9) rfl dX5_readWant_69 ?_
          refine lv_iload_n hx hb dX5_readWant_72 rfl (lv_at hl 0 rfl) ?_
          obtain ⟨r73, hc73, hok⟩ := k_bind hok
          refine kCi (wc := (wX4_placesOf cy aH qH vH vH_places)) (wc2 := (wX4_placesOf cy aH qH vH vH_places)) (wr := [(aR, oX5 vR_58 qR vR_j11_58 aH), (qR 0, rB cy 900 vR_tape), (qR 4, rJ cy 7 vR_thingNames), (qR 3, rJ cy 4 vR_ringNames), (qH 7, oX7 vU qU), (qU 1, rI cy 6 vU_things), (qU 2, rI cy 6 vU_cells), (qU 3, rI cy 6 vU_nights), (qU 4, rI cy 6 vU_worths)]) (ws2 := (wX5_readWant cy aR qR aH qH qU aH vR_j11_58 vR_58 vR_tape vH vR_thingNames vR_ringNames vH_places vU vU_things vU_cells vU_nights vU_worths)) (kRunV (As := [.int r47]) (rest := [.int 0, .ref aR]) ⟨hx, hb, hml, hown, ht0⟩ (kX4_placesOf l D cy _ aH qH vH vH_places r47 r73 hc73 _ rfl) (cwV 1 ht0 (gV wd391 wd257 wd258 wd9 wd259) rfl rfl rfl (by decide +kernel) ⟨Nat.le_of_ble_eq_true rfl, Nat.le_of_ble_eq_true rfl⟩) hK hN hP hD [2, 5] rfl (by decide) 2 3 rfl rfl rfl hl.1 rfl (Nat.le_of_ble_eq_true rfl) dX5_readWant_73 ⟨Nat.zero_le _, Nat.zero_le _⟩) hP hD hS hA [2, 5] [0, 1, 3, 4, 6, 7, 8, 9, 10] rfl rfl (by decide) (by decide) [0, 1, 9, 2, 3, 10, 4, 5, 6, 7, 8] (by decide) rfl rfl (fun H locs hP hD hS => ?_)
          refine lv_iconst (v := 1) hx hb dX5_readWant_76 (by decide) ?_
          refine lv_isub hx hb dX5_readWant_77 ?_
          obtain ⟨⟨r78, vR_j11_78, vR_78⟩, hc78, hok⟩ := k_bind hok
          try dsimp only at hok
          refine kCi (wc := (wX5_takeWhole cy aR qR aH aH vR_j11_58 vR_58 vR_tape)) (wc2 := (wX5_takeWhole cy aR qR aH aH vR_j11_78 vR_78 vR_tape)) (wr := [(aH, oX4 vH qH), (qR 4, rJ cy 7 vR_thingNames), (qR 3, rJ cy 4 vR_ringNames), (qH 9, rI cy 4 vH_places), (qH 7, oX7 vU qU), (qU 1, rI cy 6 vU_things), (qU 2, rI cy 6 vU_cells), (qU 3, rI cy 6 vU_nights), (qU 4, rI cy 6 vU_worths)]) (ws2 := (wX5_readWant cy aR qR aH qH qU aH vR_j11_78 vR_78 vR_tape vH vR_thingNames vR_ringNames vH_places vU vU_things vU_cells vU_nights vU_worths)) (kRunV (As := [.int 0, .int (r73 - (1 : Int32))]) (rest := []) ⟨hx, hb, hml, hown, ht0⟩ (kX5_takeWhole l D cy _ aR qR aH vR_j11_58 vR_58 vR_tape (0 : Int32) (r73 - (1 : Int32)) r78 vR_j11_78 vR_78 hc78 _ rfl) (cwV 2 ht0 (gV wd345 wd346 wd347 wd276 wd348) rfl rfl rfl (by decide +kernel) ⟨Nat.le_of_ble_eq_true rfl, Nat.le_of_ble_eq_true rfl⟩) hK hN hP hD [0, 1] rfl (by decide) 0 4 rfl rfl rfl hl.1 rfl (Nat.le_of_ble_eq_true rfl) dX5_readWant_78 ⟨Nat.zero_le _, Nat.zero_le _⟩) hP hD hS hA [0, 1] [2, 3, 4, 5, 6, 7, 8, 9, 10] rfl rfl (by decide) (by decide) [9, 10, 0, 1, 2, 3, 4, 5, 6, 7, 8] (by decide) rfl rfl (fun H locs hP hD hS => ?_)
          refine lv_istore_n (lv' := [(3, .int r78), (2, .int r47), (1, .int r16), (0, .ref aR)]) hx hb dX5_readWant_81 rfl hl (by decide) rfl (fun ls hl => ?_)
          refine lv_iload_n hx hb dX5_readWant_82 rfl (lv_at hl 0 rfl) ?_
          refine lv_if_lt (tgt := 96) hx hb dX5_readWant_83 (by decide) (fun c83 => ?_) (fun c83 => ?_)
          · have hok := k_pos c83 hok
            exact J96 vR_j11_78 vR_78 H locs ls hP hD hS (lv_sub hl [] rfl) hok
          · have hok := k_neg c83 hok
            refine lv_aload_n hx hb dX5_readWant_86 rfl (lv_at hl 3 rfl) ?_
            refine va_ldcSw (own := RX5) (tx := "night") (index := 259) (q := ad.1 12) hx hb hown (hSt.2.1 (RX5, 259, "night", 12) (List.mem_of_getElem? (i := 20) rfl)) dX5_readWant_87 ?_
            obtain ⟨⟨r90, vR_j11_90, vR_90⟩, hc90, hok⟩ := k_bind hok
            try dsimp only at hok
            refine kCi (wc := (wX5_passes cy aR qR aH aH vR_j11_78 vR_78 vR_tape)) (wc2 := (wX5_passes cy aR qR aH aH vR_j11_90 vR_90 vR_tape)) (wr := [(aH, oX4 vH qH), (qR 4, rJ cy 7 vR_thingNames), (qR 3, rJ cy 4 vR_ringNames), (qH 9, rI cy 4 vH_places), (qH 7, oX7 vU qU), (qU 1, rI cy 6 vU_things), (qU 2, rI cy 6 vU_cells), (qU 3, rI cy 6 vU_nights), (qU 4, rI cy 6 vU_worths)]) (ws2 := (wX5_readWant cy aR qR aH qH qU aH vR_j11_90 vR_90 vR_tape vH vR_thingNames vR_ringNames vH_places vU vU_things vU_cells vU_nights vU_worths)) (kRunVS (As := [.ref (ad.1 12)]) (rest := []) ⟨hx, hb, hml, hown, ht0⟩ (kX5_passes l D cy ad _ aR qR aH vR_j11_78 vR_78 vR_tape 12 r90 vR_j11_90 vR_90 hc90 _ rfl) (cwV 1 ht0 (gV wd341 wd342 wd343 wd276 wd344) rfl rfl rfl (by decide +kernel) ⟨Nat.le_of_ble_eq_true rfl, Nat.le_of_ble_eq_true rfl⟩) hK hN hP hD hSt hS hA [0, 1] rfl (by decide) 0 4 rfl rfl rfl hl.1 rfl (Nat.le_of_ble_eq_true rfl) dX5_readWant_90 ⟨Nat.zero_le _, Nat.zero_le _⟩) hP hD hS hA [0, 1] [2, 3, 4, 5, 6, 7, 8, 9, 10] rfl rfl (by decide) (by decide) [9, 10, 0, 1, 2, 3, 4, 5, 6, 7, 8] (by decide) rfl rfl (fun H locs hP hD hS => ?_)
            refine lv_if_ne (tgt := 98) hx hb dX5_readWant_93 (by decide) (fun c93 => ?_) (fun c93 => ?_)
            · have hok := k_neg c93 hok
              refine lv_aload_n hx hb dX5_readWant_98 rfl (lv_at hl 3 rfl) ?_
              refine lv_iconst (v := 1) hx hb dX5_readWant_99 (by decide) ?_
              refine lv_bipush (v := 60) hx hb dX5_readWant_100 (by decide) ?_
              obtain ⟨⟨r102, vR_j11_102, vR_102⟩, hc102, hok⟩ := k_bind hok
              try dsimp only at hok
              refine kCi (wc := (wX5_takeWhole cy aR qR aH aH vR_j11_90 vR_90 vR_tape)) (wc2 := (wX5_takeWhole cy aR qR aH aH vR_j11_102 vR_102 vR_tape)) (wr := [(aH, oX4 vH qH), (qR 4, rJ cy 7 vR_thingNames), (qR 3, rJ cy 4 vR_ringNames), (qH 9, rI cy 4 vH_places), (qH 7, oX7 vU qU), (qU 1, rI cy 6 vU_things), (qU 2, rI cy 6 vU_cells), (qU 3, rI cy 6 vU_nights), (qU 4, rI cy 6 vU_worths)]) (ws2 := (wX5_readWant cy aR qR aH qH qU aH vR_j11_102 vR_102 vR_tape vH vR_thingNames vR_ringNames vH_places vU vU_things vU_cells vU_nights vU_worths)) (kRunV (As := [.int 1, .int 60]) (rest := []) ⟨hx, hb, hml, hown, ht0⟩ (kX5_takeWhole l D cy _ aR qR aH vR_j11_90 vR_90 vR_tape (1 : Int32) (60 : Int32) r102 vR_j11_102 vR_102 hc102 _ rfl) (cwV 2 ht0 (gV wd345 wd346 wd347 wd276 wd348) rfl rfl rfl (by decide +kernel) ⟨Nat.le_of_ble_eq_true rfl, Nat.le_of_ble_eq_true rfl⟩) hK hN hP hD [0, 1] rfl (by decide) 0 4 rfl rfl rfl hl.1 rfl (Nat.le_of_ble_eq_true rfl) dX5_readWant_102 ⟨Nat.zero_le _, Nat.zero_le _⟩) hP hD hS hA [0, 1] [2, 3, 4, 5, 6, 7, 8, 9, 10] rfl rfl (by decide) (by decide) [9, 10, 0, 1, 2, 3, 4, 5, 6, 7, 8] (by decide) rfl rfl (fun H locs hP hD hS => ?_)
              refine lv_istore (lv' := [(4, .int r102), (3, .int r78), (2, .int r47), (1, .int r16), (0, .ref aR)]) hx hb dX5_readWant_105 hl (by decide) rfl (fun ls hl => ?_)
              refine lv_iload hx hb dX5_readWant_107 (lv_at hl 0 rfl) ?_
              refine lv_if_lt (tgt := 122) hx hb dX5_readWant_109 (by decide) (fun c109 => ?_) (fun c109 => ?_)
              · have hok := k_pos c109 hok
                exact J122 vR_j11_102 vR_102 H locs ls hP hD hS (lv_sub hl [] rfl) hok
              · have hok := k_neg c109 hok
                refine lv_aload_n hx hb dX5_readWant_112 rfl (lv_at hl 4 rfl) ?_
                refine va_ldcSw (own := RX5) (tx := "pays") (index := 261) (q := ad.1 13) hx hb hown (hSt.2.1 (RX5, 261, "pays", 13) (List.mem_of_getElem? (i := 21) rfl)) dX5_readWant_113 ?_
                obtain ⟨⟨r116, vR_j11_116, vR_116⟩, hc116, hok⟩ := k_bind hok
                try dsimp only at hok
                refine kCi (wc := (wX5_passes cy aR qR aH aH vR_j11_102 vR_102 vR_tape)) (wc2 := (wX5_passes cy aR qR aH aH vR_j11_116 vR_116 vR_tape)) (wr := [(aH, oX4 vH qH), (qR 4, rJ cy 7 vR_thingNames), (qR 3, rJ cy 4 vR_ringNames), (qH 9, rI cy 4 vH_places), (qH 7, oX7 vU qU), (qU 1, rI cy 6 vU_things), (qU 2, rI cy 6 vU_cells), (qU 3, rI cy 6 vU_nights), (qU 4, rI cy 6 vU_worths)]) (ws2 := (wX5_readWant cy aR qR aH qH qU aH vR_j11_116 vR_116 vR_tape vH vR_thingNames vR_ringNames vH_places vU vU_things vU_cells vU_nights vU_worths)) (kRunVS (As := [.ref (ad.1 13)]) (rest := []) ⟨hx, hb, hml, hown, ht0⟩ (kX5_passes l D cy ad _ aR qR aH vR_j11_102 vR_102 vR_tape 13 r116 vR_j11_116 vR_116 hc116 _ rfl) (cwV 1 ht0 (gV wd341 wd342 wd343 wd276 wd344) rfl rfl rfl (by decide +kernel) ⟨Nat.le_of_ble_eq_true rfl, Nat.le_of_ble_eq_true rfl⟩) hK hN hP hD hSt hS hA [0, 1] rfl (by decide) 0 4 rfl rfl rfl hl.1 rfl (Nat.le_of_ble_eq_true rfl) dX5_readWant_116 ⟨Nat.zero_le _, Nat.zero_le _⟩) hP hD hS hA [0, 1] [2, 3, 4, 5, 6, 7, 8, 9, 10] rfl rfl (by decide) (by decide) [9, 10, 0, 1, 2, 3, 4, 5, 6, 7, 8] (by decide) rfl rfl (fun H locs hP hD hS => ?_)
                refine lv_if_ne (tgt := 124) hx hb dX5_readWant_119 (by decide) (fun c119 => ?_) (fun c119 => ?_)
                · have hok := k_neg c119 hok
                  refine lv_aload_n hx hb dX5_readWant_124 rfl (lv_at hl 4 rfl) ?_
                  refine lv_iconst (v := 1) hx hb dX5_readWant_125 (by decide) ?_
                  refine lv_bipush (v := 99) hx hb dX5_readWant_126 (by decide) ?_
                  obtain ⟨⟨r128, vR_j11_128, vR_128⟩, hc128, hok⟩ := k_bind hok
                  try dsimp only at hok
                  refine kCi (wc := (wX5_takeWhole cy aR qR aH aH vR_j11_116 vR_116 vR_tape)) (wc2 := (wX5_takeWhole cy aR qR aH aH vR_j11_128 vR_128 vR_tape)) (wr := [(aH, oX4 vH qH), (qR 4, rJ cy 7 vR_thingNames), (qR 3, rJ cy 4 vR_ringNames), (qH 9, rI cy 4 vH_places), (qH 7, oX7 vU qU), (qU 1, rI cy 6 vU_things), (qU 2, rI cy 6 vU_cells), (qU 3, rI cy 6 vU_nights), (qU 4, rI cy 6 vU_worths)]) (ws2 := (wX5_readWant cy aR qR aH qH qU aH vR_j11_128 vR_128 vR_tape vH vR_thingNames vR_ringNames vH_places vU vU_things vU_cells vU_nights vU_worths)) (kRunV (As := [.int 1, .int 99]) (rest := []) ⟨hx, hb, hml, hown, ht0⟩ (kX5_takeWhole l D cy _ aR qR aH vR_j11_116 vR_116 vR_tape (1 : Int32) (99 : Int32) r128 vR_j11_128 vR_128 hc128 _ rfl) (cwV 2 ht0 (gV wd345 wd346 wd347 wd276 wd348) rfl rfl rfl (by decide +kernel) ⟨Nat.le_of_ble_eq_true rfl, Nat.le_of_ble_eq_true rfl⟩) hK hN hP hD [0, 1] rfl (by decide) 0 4 rfl rfl rfl hl.1 rfl (Nat.le_of_ble_eq_true rfl) dX5_readWant_128 ⟨Nat.zero_le _, Nat.zero_le _⟩) hP hD hS hA [0, 1] [2, 3, 4, 5, 6, 7, 8, 9, 10] rfl rfl (by decide) (by decide) [9, 10, 0, 1, 2, 3, 4, 5, 6, 7, 8] (by decide) rfl rfl (fun H locs hP hD hS => ?_)
                  refine lv_istore (lv' := [(5, .int r128), (4, .int r102), (3, .int r78), (2, .int r47), (1, .int r16), (0, .ref aR)]) hx hb dX5_readWant_131 hl (by decide) rfl (fun ls hl => ?_)
                  refine lv_iload hx hb dX5_readWant_133 (lv_at hl 0 rfl) ?_
                  refine lv_if_ge (tgt := 140) hx hb dX5_readWant_135 (by decide) (fun c135 => ?_) (fun c135 => ?_)
                  · have hok := k_pos c135 hok
                    refine lv_aload_n hx hb dX5_readWant_140 rfl (lv_at hl 5 rfl) ?_
                    refine va_get (D := D) (ci := 4) (v := .ref aH) (C := RX5) (T := TX5) (N := 13) hx hb ht0 niX5 hown hK hP 0 rfl rfl 2 (by decide) (ht0 _ wd266) (fun _ h9 => h9) rfl dX5_readWant_141 ?_
                    refine va_get (D := D) (ci := 3) (v := .ref (qH 7)) (C := RX4) (T := TX4) (N := 20) hx hb ht0 niX4 hown hK hP 2 rfl rfl 7 (by decide) (ht0 _ wd352) (fun _ h9 => h9) rfl dX5_readWant_144 ?_
                    refine lv_iload_n hx hb dX5_readWant_147 rfl (lv_at hl 4 rfl) ?_
                    refine lv_iload_n hx hb dX5_readWant_148 rfl (lv_at hl 3 rfl) ?_
                    refine lv_iload_n hx hb dX5_readWant_149 rfl (lv_at hl 2 rfl) ?_
                    obtain ⟨r150, hc150, hok⟩ := k_bind hok
                    refine kCi (wc := (wX8_cellAt cy )) (wc2 := (wX8_cellAt cy )) (wr := [(aR, oX5 vR_128 qR vR_j11_128 aH), (qR 0, rB cy 900 vR_tape), (aH, oX4 vH qH), (qR 4, rJ cy 7 vR_thingNames), (qR 3, rJ cy 4 vR_ringNames), (qH 9, rI cy 4 vH_places), (qH 7, oX7 vU qU), (qU 1, rI cy 6 vU_things), (qU 2, rI cy 6 vU_cells), (qU 3, rI cy 6 vU_nights), (qU 4, rI cy 6 vU_worths)]) (ws2 := (wX5_readWant cy aR qR aH qH qU aH vR_j11_128 vR_128 vR_tape vH vR_thingNames vR_ringNames vH_places vU vU_things vU_cells vU_nights vU_worths)) (kRunSN (As := [.int r47, .int r78]) (rest := [.int r16, .ref (qH 7)]) ⟨hx, hb, hml, hown, ht0⟩ (kX8_cellAt l D cy _ r47 r78 r150 hc150 _ rfl) ⟨va_cnB 2 ht0 (gN wd260) rfl rfl rfl (hN _ (List.mem_of_getElem? (i := 5) rfl)) (ht0 _ wd57) (by decide +kernel) ⟨Nat.le_of_ble_eq_true rfl, Nat.le_of_ble_eq_true rfl⟩, ht0 _ wd261, trivial⟩ hK hN hP hD [] rfl (by decide) rfl hl.1 rfl (Nat.le_of_ble_eq_true rfl) dX5_readWant_150 ⟨Nat.zero_le _, Nat.zero_le _⟩) hP hD hS hA [] [0, 1, 2, 3, 4, 5, 6, 7, 8, 9, 10] rfl rfl (by decide) (by decide) [0, 1, 2, 3, 4, 5, 6, 7, 8, 9, 10] (by decide) rfl rfl (fun H locs hP hD hS => ?_)
                    refine lv_iload hx hb dX5_readWant_153 (lv_at hl 1 rfl) ?_
                    refine lv_iload hx hb dX5_readWant_155 (lv_at hl 0 rfl) ?_
                    obtain ⟨⟨vU_157, vU_things_157, vU_cells_157, vU_nights_157, vU_worths_157⟩, hc157, hok⟩ := k_bind hok
                    try dsimp only at hok
                    refine kCv (wc := (wX7_add cy (qH 7) qU vU vU_things vU_cells vU_nights vU_worths)) (wc2 := (wX7_add cy (qH 7) qU vU_157 vU_things_157 vU_cells_157 vU_nights_157 vU_worths_157)) (wr := [(aR, oX5 vR_128 qR vR_j11_128 aH), (qR 0, rB cy 900 vR_tape), (aH, oX4 vH qH), (qR 4, rJ cy 7 vR_thingNames), (qR 3, rJ cy 4 vR_ringNames), (qH 9, rI cy 4 vH_places)]) (ws2 := (wX5_readWant cy aR qR aH qH qU aH vR_j11_128 vR_128 vR_tape vH vR_thingNames vR_ringNames vH_places vU_157 vU_things_157 vU_cells_157 vU_nights_157 vU_worths_157)) (kRunV (As := [.int r16, .int r150, .int r102, .int r128]) (rest := []) ⟨hx, hb, hml, hown, ht0⟩ (kX7_add l D cy _ (qH 7) qU vU vU_things vU_cells vU_nights vU_worths r16 r150 r102 r128 vU_157 vU_things_157 vU_cells_157 vU_nights_157 vU_worths_157 hc157 _ rfl) (cwV 4 ht0 (gV wd417 wd418 wd419 wd218 wd420) rfl rfl rfl (by decide +kernel) ⟨Nat.le_of_ble_eq_true rfl, Nat.le_of_ble_eq_true rfl⟩) hK hN hP hD [6, 7, 8, 9, 10] rfl (by decide) 6 6 rfl rfl rfl hl.1 rfl (Nat.le_of_ble_eq_true rfl) dX5_readWant_157 ⟨Nat.zero_le _, Nat.zero_le _⟩) hP hD hS hA [6, 7, 8, 9, 10] [0, 1, 2, 3, 4, 5] rfl rfl (by decide) (by decide) [0, 1, 2, 3, 4, 5, 6, 7, 8, 9, 10] (by decide) rfl rfl (fun H locs hP hD hS => ?_)
                    refine lv_iconst (v := 1) hx hb dX5_readWant_160 (by decide) ?_
                    cases hok
                    subst hQe; exact W.zret hx hb hr rfl (fun t ht hW => ⟨⟨_, (), rfl, rfl, by rw [ht]; exact hP, va_K.moved hW.alike hK, hD⟩, hS.F ht⟩) hS.2.2 dX5_readWant_161
                  · have hok := k_neg c135 hok
                    refine lv_iconst (v := 0) hx hb dX5_readWant_138 (by decide) ?_
                    cases hok
                    subst hQe; exact W.zret hx hb hr rfl (fun t ht hW => ⟨⟨_, (), rfl, rfl, by rw [ht]; exact hP, va_K.moved hW.alike hK, hD⟩, hS.F ht⟩) hS.2.2 dX5_readWant_139
                · have hok := k_pos c119 hok
                  exact J122 vR_j11_116 vR_116 H locs ls hP hD hS (lv_sub hl [] rfl) hok
            · have hok := k_pos c93 hok
              exact J96 vR_j11_90 vR_90 H locs ls hP hD hS (lv_sub hl [] rfl) hok
        · have hok := k_pos c61 hok
          exact J64 vR_j11_58 vR_58 H locs ls hP hD hS (lv_sub hl [] rfl) hok
    · have hok := k_pos c30 hok
      exact J33 vR_j11_27 vR_27 H locs ls hP hD hS (lv_sub hl [] rfl) hok
def wsX5_readMark : List Cond := .code yX5_readMark cX5_readMark 4 (some .boolean) :: W0
abbrev wX5_readMark (cy : Nat → ClassId) (aR : Nat) (qR : Nat → Nat) (aH : Nat) (qH : Nat → Nat) (fvR_2 : Nat) (vR_j11 : Int64) (vR : Nat → Int32) (vR_tape : Nat → Int32) (vH : Nat → Int32) (vH_markNights : Nat → Int32) (vH_markPlaces : Nat → Int32) (vH_markFound : Nat → Int32) : va_W := [(aR, oX5 vR qR vR_j11 fvR_2), (qR 0, rB cy 900 vR_tape), (aH, oX4 vH qH), (qH 17, rI cy 6 vH_markNights), (qH 18, rI cy 6 vH_markPlaces), (qH 19, rZ cy 6 vH_markFound)]
set_option maxHeartbeats 4000000 in
set_option maxRecDepth 100000 in
theorem kX5_readMark (l : Launch) (D : va_G) (cy : Nat → ClassId) (ad : (Nat → Nat) × (Nat → Nat)) (sz : Nat) (aR : Nat) (qR : Nat → Nat) (aH : Nat) (qH : Nat → Nat) (vR_j11 : Int64) (vR : Nat → Int32) (vR_tape : Nat → Int32) (vH : Nat → Int32) (vH_markNights : Nat → Int32) (vH_markPlaces : Nat → Int32) (vH_markFound : Nat → Int32) (zr : Int32) (z_vR_j11 : Int64) (z_vR : Nat → Int32) (z_vH : Nat → Int32) (z_vH_markNights : Nat → Int32) (z_vH_markPlaces : Nat → Int32) (z_vH_markFound : Nat → Int32) (hok : fX5_readMark vR_j11 vR vR_tape vH vH_markNights vH_markPlaces vH_markFound = some (zr, z_vR_j11, z_vR, z_vH, z_vH_markNights, z_vH_markPlaces, z_vH_markFound)) (A : Nat → Prop) (hAe : va_A (wX5_readMark cy aR qR aH qH aH vR_j11 vR vR_tape vH vH_markNights vH_markPlaces vH_markFound) sz = A) : Met l yX5_readMark wsX5_readMark ({ frames := 6, cells := 0, slots := 0, locals := 129 } : Room) (kPreS D cy ad [.ref aR] (wX5_readMark cy aR qR aH qH aH vR_j11 vR vR_tape vH vH_markNights vH_markPlaces vH_markFound) sz A) (kQi D cy zr A (wX5_readMark cy aR qR aH qH aH z_vR_j11 z_vR vR_tape z_vH z_vH_markNights z_vH_markPlaces z_vH_markFound)) 0 0 A := by
  refine Met.ofW (cc := cX5_readMark) (maxL := 4) (ret := (some .boolean)) (by decide) rfl ?_
  intro p e s m args below meth c s₁ B hml hv
  obtain ⟨rfl, ⟨hsz, hP, hK, hD0, hN⟩, hSt⟩ := hv
  have hx := B.exec
  have hb := B.bytes
  have hr := B.returns
  have ht0 : ∀ w ∈ W0, w.before _ s = true := fun w h => atoms_spec (ws := wsX5_readMark) B.pre w (List.mem_cons_of_mem _ h)
  have hown : s.vm.findClass RX5 = some m.cls := findClass_of_methodNamed B.named
  have hlocks := B.notSynchronized
  subst hsz
  have hD : va_D A (wX5_readMark cy aR qR aH qH aH vR_j11 vR vR_tape vH vH_markNights vH_markPlaces vH_markFound) := by rw [← hAe]; exact hD0.self
  have hA : ∀ q : Nat, s.heap.size ≤ q → A q := fun q h => by rw [← hAe]; exact Or.inr h
  have hS : va_S A s.heap s.heap [] := va_S.rf
  have hl := lv_entry ([.ref aR]) (n := 4) (Nat.le_of_ble_eq_true rfl)
  rw [lg_entry_eq]
  generalize (lg_sl ([.ref aR]) ++ List.replicate (4 - (lg_sl ([.ref aR])).length) Slot.unset).toArray = ls at hl ⊢
  have hl : lv_has ls 4 [(0, .ref aR)] := hl
  unfold fX5_readMark at hok
  obtain ⟨H, hH⟩ : ∃ H, H = s.heap := ⟨_, rfl⟩
  obtain ⟨locs, hlc⟩ : ∃ x : List Loc, x = [] := ⟨_, rfl⟩
  have hP : va_P D vwCl (wX5_readMark cy aR qR aH qH aH vR_j11 vR vR_tape vH vH_markNights vH_markPlaces vH_markFound) H := by rw [hH]; exact hP
  have hS : va_S A s.heap H locs := by rw [hH, hlc]; exact hS
  rw [show W p l e _ s m _ below meth c s.heap [] = W p l e _ s m _ below meth c H locs from by rw [hH, hlc]]
  refine lv_aload_n hx hb dX5_readMark_0 rfl (lv_at hl 0 rfl) ?_
  refine va_ldcS (own := RX5) (tx := "found") (index := 114) (q := ad.1 7) hx hb hown (hSt.2.1 (RX5, 114, "found", 7) (List.mem_of_getElem? (i := 6) rfl)) dX5_readMark_1 ?_
  obtain ⟨r3, hc3, hok⟩ := k_bind hok
  refine kCi (wc := (wX5_says cy aR qR aH aH vR_j11 vR vR_tape)) (wc2 := (wX5_says cy aR qR aH aH vR_j11 vR vR_tape)) (wr := [(aH, oX4 vH qH), (qH 17, rI cy 6 vH_markNights), (qH 18, rI cy 6 vH_markPlaces), (qH 19, rZ cy 6 vH_markFound)]) (ws2 := (wX5_readMark cy aR qR aH qH aH vR_j11 vR vR_tape vH vH_markNights vH_markPlaces vH_markFound)) (kRunVS (As := [.ref (ad.1 7)]) (rest := []) ⟨hx, hb, hml, hown, ht0⟩ (kX5_says l D cy ad _ aR qR aH vR_j11 vR vR_tape 7 r3 hc3 _ rfl) (cwV 1 ht0 (gV wd324 wd325 wd326 wd276 wd327) rfl rfl rfl (by decide +kernel) ⟨Nat.le_of_ble_eq_true rfl, Nat.le_of_ble_eq_true rfl⟩) hK hN hP hD hSt hS hA [0, 1] rfl (by decide) 0 4 rfl rfl rfl hl.1 rfl (Nat.le_of_ble_eq_true rfl) dX5_readMark_3 ⟨Nat.zero_le _, Nat.zero_le _⟩) hP hD hS hA [0, 1] [2, 3, 4, 5] rfl rfl (by decide) (by decide) [4, 5, 0, 1, 2, 3] (by decide) rfl rfl (fun H locs hP hD hS => ?_)
  refine lv_istore_n (lv' := [(1, .int r3), (0, .ref aR)]) hx hb dX5_readMark_6 rfl hl (by decide) rfl (fun ls hl => ?_)
  refine lv_aload_n hx hb dX5_readMark_7 rfl (lv_at hl 1 rfl) ?_
  obtain ⟨⟨vR_j11_8, vR_8⟩, hc8, hok⟩ := k_bind hok
  try dsimp only at hok
  refine kCv (wc := (wX5_step cy aR qR aH aH vR_j11 vR vR_tape)) (wc2 := (wX5_step cy aR qR aH aH vR_j11_8 vR_8 vR_tape)) (wr := [(aH, oX4 vH qH), (qH 17, rI cy 6 vH_markNights), (qH 18, rI cy 6 vH_markPlaces), (qH 19, rZ cy 6 vH_markFound)]) (ws2 := (wX5_readMark cy aR qR aH qH aH vR_j11_8 vR_8 vR_tape vH vH_markNights vH_markPlaces vH_markFound)) (kRunV (As := []) (rest := []) ⟨hx, hb, hml, hown, ht0⟩ (kX5_step l D cy _ aR qR aH vR_j11 vR vR_tape vR_j11_8 vR_8 hc8 _ rfl) (cwV 0 ht0 (gV wd328 wd329 wd330 wd276 wd331) rfl rfl rfl (by decide +kernel) ⟨Nat.le_of_ble_eq_true rfl, Nat.le_of_ble_eq_true rfl⟩) hK hN hP hD [0, 1] rfl (by decide) 0 4 rfl rfl rfl hl.1 rfl (Nat.le_of_ble_eq_true rfl) dX5_readMark_8 ⟨Nat.zero_le _, Nat.zero_le _⟩) hP hD hS hA [0, 1] [2, 3, 4, 5] rfl rfl (by decide) (by decide) [4, 5, 0, 1, 2, 3] (by decide) rfl rfl (fun H locs hP hD hS => ?_)
  refine lv_aload_n hx hb dX5_readMark_11 rfl (lv_at hl 1 rfl) ?_
  refine lv_iconst (v := 0) hx hb dX5_readMark_12 (by decide) ?_
  refine lv_bipush (v := 99) hx hb dX5_readMark_13 (by decide) ?_
  obtain ⟨⟨r15, vR_15⟩, hc15, hok⟩ := k_bind hok
  try dsimp only at hok
  refine kCi (wc := (wX5_isWhole cy aR qR aH aH vR_j11_8 vR_8)) (wc2 := (wX5_isWhole cy aR qR aH aH vR_j11_8 vR_15)) (wr := [(qR 0, rB cy 900 vR_tape), (aH, oX4 vH qH), (qH 17, rI cy 6 vH_markNights), (qH 18, rI cy 6 vH_markPlaces), (qH 19, rZ cy 6 vH_markFound)]) (ws2 := (wX5_readMark cy aR qR aH qH aH vR_j11_8 vR_15 vR_tape vH vH_markNights vH_markPlaces vH_markFound)) (kRunV (As := [.int 0, .int 99]) (rest := []) ⟨hx, hb, hml, hown, ht0⟩ (kX5_isWhole l D cy _ aR qR aH vR_j11_8 vR_8 (0 : Int32) (99 : Int32) r15 vR_15 hc15 _ rfl) (cwV 2 ht0 (gV wd336 wd337 wd338 wd276 wd339) rfl rfl rfl (by decide +kernel) ⟨Nat.le_of_ble_eq_true rfl, Nat.le_of_ble_eq_true rfl⟩) hK hN hP hD [0] rfl (by decide) 0 4 rfl rfl rfl hl.1 rfl (Nat.le_of_ble_eq_true rfl) dX5_readMark_15 ⟨Nat.zero_le _, Nat.zero_le _⟩) hP hD hS hA [0] [1, 2, 3, 4, 5] rfl rfl (by decide) (by decide) [5, 0, 1, 2, 3, 4] (by decide) rfl rfl (fun H locs hP hD hS => ?_)
  refine lv_if_ne (tgt := 23) hx hb dX5_readMark_18 (by decide) (fun c18 => ?_) (fun c18 => ?_)
  · have hok := k_neg c18 hok
    refine lv_aload_n hx hb dX5_readMark_23 rfl (lv_at hl 1 rfl) ?_
    refine va_get (D := D) (ci := 4) (v := .int (vR_15 10)) (C := RX5) (T := TX5) (N := 13) hx hb ht0 niX5 hown hK hP 0 rfl rfl 10 (by decide) (ht0 _ wd272) (fun _ h9 => h9) rfl dX5_readMark_24 ?_
    refine lv_istore_n (lv' := [(2, .int (vR_15 10)), (1, .int r3), (0, .ref aR)]) hx hb dX5_readMark_27 rfl hl (by decide) rfl (fun ls hl => ?_)
    refine lv_aload_n hx hb dX5_readMark_28 rfl (lv_at hl 2 rfl) ?_
    refine va_get (D := D) (ci := 4) (v := .ref aH) (C := RX5) (T := TX5) (N := 13) hx hb ht0 niX5 hown hK hP 0 rfl rfl 2 (by decide) (ht0 _ wd266) (fun _ h9 => h9) rfl dX5_readMark_29 ?_
    refine lv_iload_n hx hb dX5_readMark_32 rfl (lv_at hl 0 rfl) ?_
    obtain ⟨r33, hc33, hok⟩ := k_bind hok
    refine kCi (wc := (wX4_hasMark cy aH qH vH vH_markNights)) (wc2 := (wX4_hasMark cy aH qH vH vH_markNights)) (wr := [(aR, oX5 vR_15 qR vR_j11_8 aH), (qR 0, rB cy 900 vR_tape), (qH 18, rI cy 6 vH_markPlaces), (qH 19, rZ cy 6 vH_markFound)]) (ws2 := (wX5_readMark cy aR qR aH qH aH vR_j11_8 vR_15 vR_tape vH vH_markNights vH_markPlaces vH_markFound)) (kRunV (As := [.int (vR_15 10)]) (rest := []) ⟨hx, hb, hml, hown, ht0⟩ (kX4_hasMark l D cy _ aH qH vH vH_markNights (vR_15 10) r33 hc33 _ rfl) (cwV 1 ht0 (gV wd421 wd422 wd423 wd9 wd424) rfl rfl rfl (by decide +kernel) ⟨Nat.le_of_ble_eq_true rfl, Nat.le_of_ble_eq_true rfl⟩) hK hN hP hD [2, 3] rfl (by decide) 2 3 rfl rfl rfl hl.1 rfl (Nat.le_of_ble_eq_true rfl) dX5_readMark_33 ⟨Nat.zero_le _, Nat.zero_le _⟩) hP hD hS hA [2, 3] [0, 1, 4, 5] rfl rfl (by decide) (by decide) [0, 1, 4, 5, 2, 3] (by decide) rfl rfl (fun H locs hP hD hS => ?_)
    refine lv_if_eq (tgt := 45) hx hb dX5_readMark_36 (by decide) (fun c36 => ?_) (fun c36 => ?_)
    · have hok := k_pos c36 hok
      refine lv_aload_n hx hb dX5_readMark_45 rfl (lv_at hl 2 rfl) ?_
      obtain ⟨⟨vR_j11_46, vR_46⟩, hc46, hok⟩ := k_bind hok
      try dsimp only at hok
      refine kCv (wc := (wX5_step cy aR qR aH aH vR_j11_8 vR_15 vR_tape)) (wc2 := (wX5_step cy aR qR aH aH vR_j11_46 vR_46 vR_tape)) (wr := [(aH, oX4 vH qH), (qH 17, rI cy 6 vH_markNights), (qH 18, rI cy 6 vH_markPlaces), (qH 19, rZ cy 6 vH_markFound)]) (ws2 := (wX5_readMark cy aR qR aH qH aH vR_j11_46 vR_46 vR_tape vH vH_markNights vH_markPlaces vH_markFound)) (kRunV (As := []) (rest := []) ⟨hx, hb, hml, hown, ht0⟩ (kX5_step l D cy _ aR qR aH vR_j11_8 vR_15 vR_tape vR_j11_46 vR_46 hc46 _ rfl) (cwV 0 ht0 (gV wd328 wd329 wd330 wd276 wd331) rfl rfl rfl (by decide +kernel) ⟨Nat.le_of_ble_eq_true rfl, Nat.le_of_ble_eq_true rfl⟩) hK hN hP hD [0, 1] rfl (by decide) 0 4 rfl rfl rfl hl.1 rfl (Nat.le_of_ble_eq_true rfl) dX5_readMark_46 ⟨Nat.zero_le _, Nat.zero_le _⟩) hP hD hS hA [0, 1] [2, 3, 4, 5] rfl rfl (by decide) (by decide) [4, 5, 0, 1, 2, 3] (by decide) rfl rfl (fun H locs hP hD hS => ?_)
      refine lv_aload_n hx hb dX5_readMark_49 rfl (lv_at hl 2 rfl) ?_
      refine va_ldcS (own := RX5) (tx := "at") (index := 248) (q := ad.1 0) hx hb hown (hSt.2.1 (RX5, 248, "at", 0) (List.mem_of_getElem? (i := 18) rfl)) dX5_readMark_50 ?_
      obtain ⟨⟨r52, vR_j11_52, vR_52⟩, hc52, hok⟩ := k_bind hok
      try dsimp only at hok
      refine kCi (wc := (wX5_passes cy aR qR aH aH vR_j11_46 vR_46 vR_tape)) (wc2 := (wX5_passes cy aR qR aH aH vR_j11_52 vR_52 vR_tape)) (wr := [(aH, oX4 vH qH), (qH 17, rI cy 6 vH_markNights), (qH 18, rI cy 6 vH_markPlaces), (qH 19, rZ cy 6 vH_markFound)]) (ws2 := (wX5_readMark cy aR qR aH qH aH vR_j11_52 vR_52 vR_tape vH vH_markNights vH_markPlaces vH_markFound)) (kRunVS (As := [.ref (ad.1 0)]) (rest := []) ⟨hx, hb, hml, hown, ht0⟩ (kX5_passes l D cy ad _ aR qR aH vR_j11_46 vR_46 vR_tape 0 r52 vR_j11_52 vR_52 hc52 _ rfl) (cwV 1 ht0 (gV wd341 wd342 wd343 wd276 wd344) rfl rfl rfl (by decide +kernel) ⟨Nat.le_of_ble_eq_true rfl, Nat.le_of_ble_eq_true rfl⟩) hK hN hP hD hSt hS hA [0, 1] rfl (by decide) 0 4 rfl rfl rfl hl.1 rfl (Nat.le_of_ble_eq_true rfl) dX5_readMark_52 ⟨Nat.zero_le _, Nat.zero_le _⟩) hP hD hS hA [0, 1] [2, 3, 4, 5] rfl rfl (by decide) (by decide) [4, 5, 0, 1, 2, 3] (by decide) rfl rfl (fun H locs hP hD hS => ?_)
      refine lv_if_ne (tgt := 60) hx hb dX5_readMark_55 (by decide) (fun c55 => ?_) (fun c55 => ?_)
      · have hok := k_neg c55 hok
        refine lv_aload_n hx hb dX5_readMark_60 rfl (lv_at hl 2 rfl) ?_
        refine lv_iconst (v := 0) hx hb dX5_readMark_61 (by decide) ?_
        refine lv_bipush (v := 11) hx hb dX5_readMark_62 (by decide) ?_
        obtain ⟨⟨r64, vR_j11_64, vR_64⟩, hc64, hok⟩ := k_bind hok
        try dsimp only at hok
        refine kCi (wc := (wX5_takeWhole cy aR qR aH aH vR_j11_52 vR_52 vR_tape)) (wc2 := (wX5_takeWhole cy aR qR aH aH vR_j11_64 vR_64 vR_tape)) (wr := [(aH, oX4 vH qH), (qH 17, rI cy 6 vH_markNights), (qH 18, rI cy 6 vH_markPlaces), (qH 19, rZ cy 6 vH_markFound)]) (ws2 := (wX5_readMark cy aR qR aH qH aH vR_j11_64 vR_64 vR_tape vH vH_markNights vH_markPlaces vH_markFound)) (kRunV (As := [.int 0, .int 11]) (rest := []) ⟨hx, hb, hml, hown, ht0⟩ (kX5_takeWhole l D cy _ aR qR aH vR_j11_52 vR_52 vR_tape (0 : Int32) (11 : Int32) r64 vR_j11_64 vR_64 hc64 _ rfl) (cwV 2 ht0 (gV wd345 wd346 wd347 wd276 wd348) rfl rfl rfl (by decide +kernel) ⟨Nat.le_of_ble_eq_true rfl, Nat.le_of_ble_eq_true rfl⟩) hK hN hP hD [0, 1] rfl (by decide) 0 4 rfl rfl rfl hl.1 rfl (Nat.le_of_ble_eq_true rfl) dX5_readMark_64 ⟨Nat.zero_le _, Nat.zero_le _⟩) hP hD hS hA [0, 1] [2, 3, 4, 5] rfl rfl (by decide) (by decide) [4, 5, 0, 1, 2, 3] (by decide) rfl rfl (fun H locs hP hD hS => ?_)
        refine lv_istore_n (lv' := [(3, .int r64), (2, .int (vR_15 10)), (1, .int r3), (0, .ref aR)]) hx hb dX5_readMark_67 rfl hl (by decide) rfl (fun ls hl => ?_)
        refine lv_iload_n hx hb dX5_readMark_68 rfl (lv_at hl 0 rfl) ?_
        refine lv_if_ge (tgt := 74) hx hb dX5_readMark_69 (by decide) (fun c69 => ?_) (fun c69 => ?_)
        · have hok := k_pos c69 hok
          refine lv_aload_n hx hb dX5_readMark_74 rfl (lv_at hl 3 rfl) ?_
          refine va_get (D := D) (ci := 4) (v := .ref aH) (C := RX5) (T := TX5) (N := 13) hx hb ht0 niX5 hown hK hP 0 rfl rfl 2 (by decide) (ht0 _ wd266) (fun _ h9 => h9) rfl dX5_readMark_75 ?_
          refine lv_iload_n hx hb dX5_readMark_78 rfl (lv_at hl 1 rfl) ?_
          refine lv_iload_n hx hb dX5_readMark_79 rfl (lv_at hl 0 rfl) ?_
          refine lv_iload_n hx hb dX5_readMark_80 rfl (lv_at hl 2 rfl) ?_
          obtain ⟨⟨vH_81, vH_markNights_81, vH_markPlaces_81, vH_markFound_81⟩, hc81, hok⟩ := k_bind hok
          try dsimp only at hok
          refine kCv (wc := (wX4_addMark cy aH qH vH vH_markNights vH_markPlaces vH_markFound)) (wc2 := (wX4_addMark cy aH qH vH_81 vH_markNights_81 vH_markPlaces_81 vH_markFound_81)) (wr := [(aR, oX5 vR_64 qR vR_j11_64 aH), (qR 0, rB cy 900 vR_tape)]) (ws2 := (wX5_readMark cy aR qR aH qH aH vR_j11_64 vR_64 vR_tape vH_81 vH_markNights_81 vH_markPlaces_81 vH_markFound_81)) (kRunV (As := [.int (vR_15 10), .int r64, .int r3]) (rest := []) ⟨hx, hb, hml, hown, ht0⟩ (kX4_addMark l D cy _ aH qH vH vH_markNights vH_markPlaces vH_markFound (vR_15 10) r64 r3 vH_81 vH_markNights_81 vH_markPlaces_81 vH_markFound_81 hc81 _ rfl) (cwV 3 ht0 (gV wd425 wd426 wd427 wd9 wd428) rfl rfl rfl (by decide +kernel) ⟨Nat.le_of_ble_eq_true rfl, Nat.le_of_ble_eq_true rfl⟩) hK hN hP hD [2, 3, 4, 5] rfl (by decide) 2 3 rfl rfl rfl hl.1 rfl (Nat.le_of_ble_eq_true rfl) dX5_readMark_81 ⟨Nat.zero_le _, Nat.zero_le _⟩) hP hD hS hA [2, 3, 4, 5] [0, 1] rfl rfl (by decide) (by decide) [0, 1, 2, 3, 4, 5] (by decide) rfl rfl (fun H locs hP hD hS => ?_)
          refine lv_iconst (v := 1) hx hb dX5_readMark_84 (by decide) ?_
          cases hok
          exact W.zret hx hb hr rfl (fun t ht hW => ⟨⟨_, (), rfl, rfl, by rw [ht]; exact hP, va_K.moved hW.alike hK, hD⟩, hS.F ht⟩) hS.2.2 dX5_readMark_85
        · have hok := k_neg c69 hok
          refine lv_iconst (v := 0) hx hb dX5_readMark_72 (by decide) ?_
          cases hok
          exact W.zret hx hb hr rfl (fun t ht hW => ⟨⟨_, (), rfl, rfl, by rw [ht]; exact hP, va_K.moved hW.alike hK, hD⟩, hS.F ht⟩) hS.2.2 dX5_readMark_73
      · have hok := k_pos c55 hok
        refine lv_iconst (v := 0) hx hb dX5_readMark_58 (by decide) ?_
        cases hok
        exact W.zret hx hb hr rfl (fun t ht hW => ⟨⟨_, (), rfl, rfl, by rw [ht]; exact hP, va_K.moved hW.alike hK, hD⟩, hS.F ht⟩) hS.2.2 dX5_readMark_59
    · have hok := k_neg c36 hok
      refine lv_aload_n hx hb dX5_readMark_39 rfl (lv_at hl 2 rfl) ?_
      refine lv_iconst (v := 3) hx hb dX5_readMark_40 (by decide) ?_
      obtain ⟨⟨r41, vR_41⟩, hc41, hok⟩ := k_bind hok
      try dsimp only at hok
      refine kCi (wc := (wX5_fails cy aR qR aH aH vR_j11_8 vR_15)) (wc2 := (wX5_fails cy aR qR aH aH vR_j11_8 vR_41)) (wr := [(qR 0, rB cy 900 vR_tape), (aH, oX4 vH qH), (qH 17, rI cy 6 vH_markNights), (qH 18, rI cy 6 vH_markPlaces), (qH 19, rZ cy 6 vH_markFound)]) (ws2 := (wX5_readMark cy aR qR aH qH aH vR_j11_8 vR_41 vR_tape vH vH_markNights vH_markPlaces vH_markFound)) (kRunV (As := [.int 3]) (rest := []) ⟨hx, hb, hml, hown, ht0⟩ (kX5_fails l D cy _ aR qR aH vR_j11_8 vR_15 (3 : Int32) r41 vR_41 hc41 _ rfl) (cwV 1 ht0 (gV wd332 wd333 wd334 wd276 wd335) rfl rfl rfl (by decide +kernel) ⟨Nat.le_of_ble_eq_true rfl, Nat.le_of_ble_eq_true rfl⟩) hK hN hP hD [0] rfl (by decide) 0 4 rfl rfl rfl hl.1 rfl (Nat.le_of_ble_eq_true rfl) dX5_readMark_41 ⟨Nat.zero_le _, Nat.zero_le _⟩) hP hD hS hA [0] [1, 2, 3, 4, 5] rfl rfl (by decide) (by decide) [5, 0, 1, 2, 3, 4] (by decide) rfl rfl (fun H locs hP hD hS => ?_)
      obtain ⟨g44, hok⟩ := gd_some hok
      cases hok
      exact W.zret hx hb hr (isB_nar g44) (fun t ht hW => ⟨⟨_, (), rfl, rfl, by rw [ht]; exact hP, va_K.moved hW.alike hK, hD⟩, hS.F ht⟩) hS.2.2 dX5_readMark_44
  · have hok := k_pos c18 hok
    refine lv_iconst (v := 0) hx hb dX5_readMark_21 (by decide) ?_
    cases hok
    exact W.zret hx hb hr rfl (fun t ht hW => ⟨⟨_, (), rfl, rfl, by rw [ht]; exact hP, va_K.moved hW.alike hK, hD⟩, hS.F ht⟩) hS.2.2 dX5_readMark_22
def wsX5_readLine : List Cond := .code yX5_readLine cX5_readLine 1 (some .boolean) :: W0
abbrev wX5_readLine (cy : Nat → ClassId) (aR : Nat) (qR : Nat → Nat) (aH : Nat) (qH : Nat → Nat) (qU : Nat → Nat) (fvR_2 : Nat) (vR_j11 : Int64) (vR : Nat → Int32) (vR_tape : Nat → Int32) (vH : Nat → Int32) (vU : Nat → Int32) (vH_markNights : Nat → Int32) (vH_markPlaces : Nat → Int32) (vH_markFound : Nat → Int32) (vR_thingNames : Nat → Int64) (vR_ringNames : Nat → Int64) (vH_places : Nat → Int32) (vU_things : Nat → Int32) (vU_cells : Nat → Int32) (vU_nights : Nat → Int32) (vU_worths : Nat → Int32) (vH_firstCells : Nat → Int32) (vH_kinds : Nat → Int32) (vH_sizes : Nat → Int32) (vH_doorOne : Nat → Int32) (vH_doorTwo : Nat → Int32) (vH_width : Nat → Int32) (vH_sorts : Nat → Int32) (vH_next : Nat → Int32) : va_W := [(aR, oX5 vR qR vR_j11 fvR_2), (qR 0, rB cy 900 vR_tape), (aH, oX4 vH qH), (qH 7, oX7 vU qU), (qH 17, rI cy 6 vH_markNights), (qH 18, rI cy 6 vH_markPlaces), (qH 19, rZ cy 6 vH_markFound), (qR 4, rJ cy 7 vR_thingNames), (qR 3, rJ cy 4 vR_ringNames), (qH 9, rI cy 4 vH_places), (qU 1, rI cy 6 vU_things), (qU 2, rI cy 6 vU_cells), (qU 3, rI cy 6 vU_nights), (qU 4, rI cy 6 vU_worths), (qH 16, rI cy 7 vH_firstCells), (qH 14, rI cy 7 vH_kinds), (qH 15, rI cy 7 vH_sizes), (qH 12, rI cy 5 vH_doorOne), (qH 13, rI cy 5 vH_doorTwo), (qH 11, rI cy 36 vH_width), (qH 8, rI cy 4 vH_sorts), (qH 10, rI cy 36 vH_next)]
set_option maxHeartbeats 4000000 in
set_option maxRecDepth 100000 in
theorem kX5_readLine (l : Launch) (D : va_G) (cy : Nat → ClassId) (ad : (Nat → Nat) × (Nat → Nat)) (sz : Nat) (aR : Nat) (qR : Nat → Nat) (aH : Nat) (qH : Nat → Nat) (qU : Nat → Nat) (vR_j11 : Int64) (vR : Nat → Int32) (vR_tape : Nat → Int32) (vH : Nat → Int32) (vU : Nat → Int32) (vH_markNights : Nat → Int32) (vH_markPlaces : Nat → Int32) (vH_markFound : Nat → Int32) (vR_thingNames : Nat → Int64) (vR_ringNames : Nat → Int64) (vH_places : Nat → Int32) (vU_things : Nat → Int32) (vU_cells : Nat → Int32) (vU_nights : Nat → Int32) (vU_worths : Nat → Int32) (vH_firstCells : Nat → Int32) (vH_kinds : Nat → Int32) (vH_sizes : Nat → Int32) (vH_doorOne : Nat → Int32) (vH_doorTwo : Nat → Int32) (vH_width : Nat → Int32) (vH_sorts : Nat → Int32) (vH_next : Nat → Int32) (zr : Int32) (z_vR_j11 : Int64) (z_vR : Nat → Int32) (z_vH : Nat → Int32) (z_vU : Nat → Int32) (z_vH_markNights : Nat → Int32) (z_vH_markPlaces : Nat → Int32) (z_vH_markFound : Nat → Int32) (z_vR_thingNames : Nat → Int64) (z_vR_ringNames : Nat → Int64) (z_vH_places : Nat → Int32) (z_vU_things : Nat → Int32) (z_vU_cells : Nat → Int32) (z_vU_nights : Nat → Int32) (z_vU_worths : Nat → Int32) (z_vH_firstCells : Nat → Int32) (z_vH_kinds : Nat → Int32) (z_vH_sizes : Nat → Int32) (z_vH_doorOne : Nat → Int32) (z_vH_doorTwo : Nat → Int32) (z_vH_width : Nat → Int32) (z_vH_sorts : Nat → Int32) (z_vH_next : Nat → Int32) (hok : fX5_readLine vR_j11 vR vR_tape vH vU vH_markNights vH_markPlaces vH_markFound vR_thingNames vR_ringNames vH_places vU_things vU_cells vU_nights vU_worths vH_firstCells vH_kinds vH_sizes vH_doorOne vH_doorTwo vH_width vH_sorts vH_next = some (zr, z_vR_j11, z_vR, z_vH, z_vU, z_vH_markNights, z_vH_markPlaces, z_vH_markFound, z_vR_thingNames, z_vR_ringNames, z_vH_places, z_vU_things, z_vU_cells, z_vU_nights, z_vU_worths, z_vH_firstCells, z_vH_kinds, z_vH_sizes, z_vH_doorOne, z_vH_doorTwo, z_vH_width, z_vH_sorts, z_vH_next)) (A : Nat → Prop) (hAe : va_A (wX5_readLine cy aR qR aH qH qU aH vR_j11 vR vR_tape vH vU vH_markNights vH_markPlaces vH_markFound vR_thingNames vR_ringNames vH_places vU_things vU_cells vU_nights vU_worths vH_firstCells vH_kinds vH_sizes vH_doorOne vH_doorTwo vH_width vH_sorts vH_next) sz = A) : Met l yX5_readLine wsX5_readLine ({ frames := 8, cells := 0, slots := 0, locals := 179 } : Room) (kPreS D cy ad [.ref aR] (wX5_readLine cy aR qR aH qH qU aH vR_j11 vR vR_tape vH vU vH_markNights vH_markPlaces vH_markFound vR_thingNames vR_ringNames vH_places vU_things vU_cells vU_nights vU_worths vH_firstCells vH_kinds vH_sizes vH_doorOne vH_doorTwo vH_width vH_sorts vH_next) sz A) (kQi D cy zr A (wX5_readLine cy aR qR aH qH qU aH z_vR_j11 z_vR vR_tape z_vH z_vU z_vH_markNights z_vH_markPlaces z_vH_markFound z_vR_thingNames z_vR_ringNames z_vH_places z_vU_things z_vU_cells z_vU_nights z_vU_worths z_vH_firstCells z_vH_kinds z_vH_sizes z_vH_doorOne z_vH_doorTwo z_vH_width z_vH_sorts z_vH_next)) 0 0 A := by
  refine Met.ofW (cc := cX5_readLine) (maxL := 1) (ret := (some .boolean)) (by decide) rfl ?_
  intro p e s m args below meth c s₁ B hml hv
  obtain ⟨rfl, ⟨hsz, hP, hK, hD0, hN⟩, hSt⟩ := hv
  have hx := B.exec
  have hb := B.bytes
  have hr := B.returns
  have ht0 : ∀ w ∈ W0, w.before _ s = true := fun w h => atoms_spec (ws := wsX5_readLine) B.pre w (List.mem_cons_of_mem _ h)
  have hown : s.vm.findClass RX5 = some m.cls := findClass_of_methodNamed B.named
  have hlocks := B.notSynchronized
  subst hsz
  have hD : va_D A (wX5_readLine cy aR qR aH qH qU aH vR_j11 vR vR_tape vH vU vH_markNights vH_markPlaces vH_markFound vR_thingNames vR_ringNames vH_places vU_things vU_cells vU_nights vU_worths vH_firstCells vH_kinds vH_sizes vH_doorOne vH_doorTwo vH_width vH_sorts vH_next) := by rw [← hAe]; exact hD0.self
  have hA : ∀ q : Nat, s.heap.size ≤ q → A q := fun q h => by rw [← hAe]; exact Or.inr h
  have hS : va_S A s.heap s.heap [] := va_S.rf
  have hl := lv_entry ([.ref aR]) (n := 1) (Nat.le_of_ble_eq_true rfl)
  rw [lg_entry_eq]
  generalize (lg_sl ([.ref aR]) ++ List.replicate (1 - (lg_sl ([.ref aR])).length) Slot.unset).toArray = ls at hl ⊢
  have hl : lv_has ls 1 [(0, .ref aR)] := hl
  generalize hQe : MQ below (kQi D cy zr A (wX5_readLine cy aR qR aH qH qU aH z_vR_j11 z_vR vR_tape z_vH z_vU z_vH_markNights z_vH_markPlaces z_vH_markFound z_vR_thingNames z_vR_ringNames z_vH_places z_vU_things z_vU_cells z_vU_nights z_vU_worths z_vH_firstCells z_vH_kinds z_vH_sizes z_vH_doorOne z_vH_doorTwo z_vH_width z_vH_sorts z_vH_next)) ([.ref aR] : List Value).toArray s 0 0 A = Q
  have J138 : ∀ (t0_138 : Int32) (vH_markFound_138 : Nat → Int32) (vH_markNights_138 : Nat → Int32) (vH_markPlaces_138 : Nat → Int32) (vU_cells_138 : Nat → Int32) (vU_nights_138 : Nat → Int32) (vU_things_138 : Nat → Int32) (vU_worths_138 : Nat → Int32) (vR_11_138 : Int64) (vH_138 : Nat → Int32) (vR_138 : Nat → Int32) (vU_138 : Nat → Int32), ∀ (H : Heap) (locs : List Loc) (ls : Array Slot), va_P D vwCl (wX5_readLine cy aR qR aH qH qU aH vR_11_138 vR_138 vR_tape vH_138 vU_138 vH_markNights_138 vH_markPlaces_138 vH_markFound_138 vR_thingNames vR_ringNames vH_places vU_things_138 vU_cells_138 vU_nights_138 vU_worths_138 vH_firstCells vH_kinds vH_sizes vH_doorOne vH_doorTwo vH_width vH_sorts vH_next) H → va_D A (wX5_readLine cy aR qR aH qH qU aH vR_11_138 vR_138 vR_tape vH_138 vU_138 vH_markNights_138 vH_markPlaces_138 vH_markFound_138 vR_thingNames vR_ringNames vH_places vU_things_138 vU_cells_138 vU_nights_138 vU_worths_138 vH_firstCells vH_kinds vH_sizes vH_doorOne vH_doorTwo vH_width vH_sorts vH_next) → va_S A s.heap H locs → lv_has ls 1 [] → fX5_readLine_J138 vR_thingNames vR_ringNames vH_places vH_firstCells vH_kinds vH_sizes vH_doorOne vH_doorTwo vH_width vH_sorts vH_next t0_138 vH_markFound_138 vH_markNights_138 vH_markPlaces_138 vU_cells_138 vU_nights_138 vU_things_138 vU_worths_138 vR_11_138 vH_138 vR_138 vU_138 = some (zr, z_vR_j11, z_vR, z_vH, z_vU, z_vH_markNights, z_vH_markPlaces, z_vH_markFound, z_vR_thingNames, z_vR_ringNames, z_vH_places, z_vU_things, z_vU_cells, z_vU_nights, z_vU_worths, z_vH_firstCells, z_vH_kinds, z_vH_sizes, z_vH_doorOne, z_vH_doorTwo, z_vH_width, z_vH_sorts, z_vH_next) → W p l e ({ frames := 8, cells := 0, slots := 0, locals := 179 } : Room) s m ([.ref aR] : List Value).toArray below meth c H locs 0 0 Q (F0 m 138 ls [.int t0_138]) := by
    intro t0_138 vH_markFound_138 vH_markNights_138 vH_markPlaces_138 vU_cells_138 vU_nights_138 vU_things_138 vU_worths_138 vR_11_138 vH_138 vR_138 vU_138 H locs ls hP hD hS hl hok
    unfold fX5_readLine_J138 at hok
    obtain ⟨g138, hok⟩ := gd_some hok
    cases hok
    subst hQe; exact W.zret hx hb hr (isB_nar g138) (fun t ht hW => ⟨⟨_, (), rfl, rfl, by rw [ht]; exact hP, va_K.moved hW.alike hK, hD⟩, hS.F ht⟩) hS.2.2 dX5_readLine_138
  have J29 : ∀ (H : Heap) (locs : List Loc) (ls : Array Slot), va_P D vwCl (wX5_readLine cy aR qR aH qH qU aH vR_j11 vR vR_tape vH vU vH_markNights vH_markPlaces vH_markFound vR_thingNames vR_ringNames vH_places vU_things vU_cells vU_nights vU_worths vH_firstCells vH_kinds vH_sizes vH_doorOne vH_doorTwo vH_width vH_sorts vH_next) H → va_D A (wX5_readLine cy aR qR aH qH qU aH vR_j11 vR vR_tape vH vU vH_markNights vH_markPlaces vH_markFound vR_thingNames vR_ringNames vH_places vU_things vU_cells vU_nights vU_worths vH_firstCells vH_kinds vH_sizes vH_doorOne vH_doorTwo vH_width vH_sorts vH_next) → va_S A s.heap H locs → lv_has ls 1 [(0, .ref aR)] → fX5_readLine_J29 vR_j11 vR vH vU vH_markNights vH_markPlaces vH_markFound vR_thingNames vR_ringNames vH_places vU_things vU_cells vU_nights vU_worths vH_firstCells vH_kinds vH_sizes vH_doorOne vH_doorTwo vH_width vH_sorts vH_next = some (zr, z_vR_j11, z_vR, z_vH, z_vU, z_vH_markNights, z_vH_markPlaces, z_vH_markFound, z_vR_thingNames, z_vR_ringNames, z_vH_places, z_vU_things, z_vU_cells, z_vU_nights, z_vU_worths, z_vH_firstCells, z_vH_kinds, z_vH_sizes, z_vH_doorOne, z_vH_doorTwo, z_vH_width, z_vH_sorts, z_vH_next) → W p l e ({ frames := 8, cells := 0, slots := 0, locals := 179 } : Room) s m ([.ref aR] : List Value).toArray below meth c H locs 0 0 Q (F0 m 29 ls []) := by
    intro  H locs ls hP hD hS hl hok
    unfold fX5_readLine_J29 at hok
    refine lv_aload_n hx hb dX5_readLine_29 rfl (lv_at hl 0 rfl) ?_
    refine lv_iconst (v := 1) hx hb dX5_readLine_30 (by decide) ?_
    obtain ⟨⟨r31, vR_31⟩, hc31, hok⟩ := k_bind hok
    try dsimp only at hok
    refine kCi (wc := (wX5_fails cy aR qR aH aH vR_j11 vR)) (wc2 := (wX5_fails cy aR qR aH aH vR_j11 vR_31)) (wr := [(qR 0, rB cy 900 vR_tape), (aH, oX4 vH qH), (qH 7, oX7 vU qU), (qH 17, rI cy 6 vH_markNights), (qH 18, rI cy 6 vH_markPlaces), (qH 19, rZ cy 6 vH_markFound), (qR 4, rJ cy 7 vR_thingNames), (qR 3, rJ cy 4 vR_ringNames), (qH 9, rI cy 4 vH_places), (qU 1, rI cy 6 vU_things), (qU 2, rI cy 6 vU_cells), (qU 3, rI cy 6 vU_nights), (qU 4, rI cy 6 vU_worths), (qH 16, rI cy 7 vH_firstCells), (qH 14, rI cy 7 vH_kinds), (qH 15, rI cy 7 vH_sizes), (qH 12, rI cy 5 vH_doorOne), (qH 13, rI cy 5 vH_doorTwo), (qH 11, rI cy 36 vH_width), (qH 8, rI cy 4 vH_sorts), (qH 10, rI cy 36 vH_next)]) (ws2 := (wX5_readLine cy aR qR aH qH qU aH vR_j11 vR_31 vR_tape vH vU vH_markNights vH_markPlaces vH_markFound vR_thingNames vR_ringNames vH_places vU_things vU_cells vU_nights vU_worths vH_firstCells vH_kinds vH_sizes vH_doorOne vH_doorTwo vH_width vH_sorts vH_next)) (kRunV (As := [.int 1]) (rest := []) ⟨hx, hb, hml, hown, ht0⟩ (kX5_fails l D cy _ aR qR aH vR_j11 vR (1 : Int32) r31 vR_31 hc31 _ rfl) (cwV 1 ht0 (gV wd332 wd333 wd334 wd276 wd335) rfl rfl rfl (by decide +kernel) ⟨Nat.le_of_ble_eq_true rfl, Nat.le_of_ble_eq_true rfl⟩) hK hN hP hD [0] rfl (by decide) 0 4 rfl rfl rfl hl.1 rfl (Nat.le_of_ble_eq_true rfl) dX5_readLine_31 ⟨Nat.zero_le _, Nat.zero_le _⟩) hP hD hS hA [0] [1, 2, 3, 4, 5, 6, 7, 8, 9, 10, 11, 12, 13, 14, 15, 16, 17, 18, 19, 20, 21] rfl rfl (by decide) (by decide) [21, 0, 1, 2, 3, 4, 5, 6, 7, 8, 9, 10, 11, 12, 13, 14, 15, 16, 17, 18, 19, 20] (by decide) rfl rfl (fun H locs hP hD hS => ?_)
    obtain ⟨g34, hok⟩ := gd_some hok
    cases hok
    subst hQe; exact W.zret hx hb hr (isB_nar g34) (fun t ht hW => ⟨⟨_, (), rfl, rfl, by rw [ht]; exact hP, va_K.moved hW.alike hK, hD⟩, hS.F ht⟩) hS.2.2 dX5_readLine_34
  unfold fX5_readLine at hok
  obtain ⟨H, hH⟩ : ∃ H, H = s.heap := ⟨_, rfl⟩
  obtain ⟨locs, hlc⟩ : ∃ x : List Loc, x = [] := ⟨_, rfl⟩
  have hP : va_P D vwCl (wX5_readLine cy aR qR aH qH qU aH vR_j11 vR vR_tape vH vU vH_markNights vH_markPlaces vH_markFound vR_thingNames vR_ringNames vH_places vU_things vU_cells vU_nights vU_worths vH_firstCells vH_kinds vH_sizes vH_doorOne vH_doorTwo vH_width vH_sorts vH_next) H := by rw [hH]; exact hP
  have hS : va_S A s.heap H locs := by rw [hH, hlc]; exact hS
  rw [show W p l e _ s m _ below meth c s.heap [] = W p l e _ s m _ below meth c H locs from by rw [hH, hlc]]
  refine lv_aload_n hx hb dX5_readLine_0 rfl (lv_at hl 0 rfl) ?_
  refine va_ldcS (own := RX5) (tx := "house") (index := 102) (q := ad.1 8) hx hb hown (hSt.2.1 (RX5, 102, "house", 8) (List.mem_of_getElem? (i := 0) rfl)) dX5_readLine_1 ?_
  obtain ⟨r3, hc3, hok⟩ := k_bind hok
  refine kCi (wc := (wX5_says cy aR qR aH aH vR_j11 vR vR_tape)) (wc2 := (wX5_says cy aR qR aH aH vR_j11 vR vR_tape)) (wr := [(aH, oX4 vH qH), (qH 7, oX7 vU qU), (qH 17, rI cy 6 vH_markNights), (qH 18, rI cy 6 vH_markPlaces), (qH 19, rZ cy 6 vH_markFound), (qR 4, rJ cy 7 vR_thingNames), (qR 3, rJ cy 4 vR_ringNames), (qH 9, rI cy 4 vH_places), (qU 1, rI cy 6 vU_things), (qU 2, rI cy 6 vU_cells), (qU 3, rI cy 6 vU_nights), (qU 4, rI cy 6 vU_worths), (qH 16, rI cy 7 vH_firstCells), (qH 14, rI cy 7 vH_kinds), (qH 15, rI cy 7 vH_sizes), (qH 12, rI cy 5 vH_doorOne), (qH 13, rI cy 5 vH_doorTwo), (qH 11, rI cy 36 vH_width), (qH 8, rI cy 4 vH_sorts), (qH 10, rI cy 36 vH_next)]) (ws2 := (wX5_readLine cy aR qR aH qH qU aH vR_j11 vR vR_tape vH vU vH_markNights vH_markPlaces vH_markFound vR_thingNames vR_ringNames vH_places vU_things vU_cells vU_nights vU_worths vH_firstCells vH_kinds vH_sizes vH_doorOne vH_doorTwo vH_width vH_sorts vH_next)) (kRunVS (As := [.ref (ad.1 8)]) (rest := []) ⟨hx, hb, hml, hown, ht0⟩ (kX5_says l D cy ad _ aR qR aH vR_j11 vR vR_tape 8 r3 hc3 _ rfl) (cwV 1 ht0 (gV wd324 wd325 wd326 wd276 wd327) rfl rfl rfl (by decide +kernel) ⟨Nat.le_of_ble_eq_true rfl, Nat.le_of_ble_eq_true rfl⟩) hK hN hP hD hSt hS hA [0, 1] rfl (by decide) 0 4 rfl rfl rfl hl.1 rfl (Nat.le_of_ble_eq_true rfl) dX5_readLine_3 ⟨Nat.zero_le _, Nat.zero_le _⟩) hP hD hS hA [0, 1] [2, 3, 4, 5, 6, 7, 8, 9, 10, 11, 12, 13, 14, 15, 16, 17, 18, 19, 20, 21] rfl rfl (by decide) (by decide) [20, 21, 0, 1, 2, 3, 4, 5, 6, 7, 8, 9, 10, 11, 12, 13, 14, 15, 16, 17, 18, 19] (by decide) rfl rfl (fun H locs hP hD hS => ?_)
  refine lv_if_eq (tgt := 14) hx hb dX5_readLine_6 (by decide) (fun c6 => ?_) (fun c6 => ?_)
  · have hok := k_pos c6 hok
    refine lv_aload_n hx hb dX5_readLine_14 rfl (lv_at hl 0 rfl) ?_
    refine va_get (D := D) (ci := 4) (v := .int (vR 7)) (C := RX5) (T := TX5) (N := 13) hx hb ht0 niX5 hown hK hP 0 rfl rfl 7 (by decide) (ht0 _ wd269) (fun _ h9 => h9) rfl dX5_readLine_15 ?_
    refine lv_iconst (v := 1) hx hb dX5_readLine_18 (by decide) ?_
    refine lv_icmp_ne (tgt := 29) hx hb dX5_readLine_19 (by decide) (fun c19 => ?_) (fun c19 => ?_)
    · have hok := k_neg c19 hok
      exact J29  H locs ls hP hD hS (lv_sub hl [0] rfl) hok
    · have hok := k_pos c19 hok
      refine lv_aload_n hx hb dX5_readLine_22 rfl (lv_at hl 0 rfl) ?_
      obtain ⟨r23, hc23, hok⟩ := k_bind hok
      refine kCi (wc := (wX5_isName cy aR qR aH aH vR_j11 vR vR_tape)) (wc2 := (wX5_isName cy aR qR aH aH vR_j11 vR vR_tape)) (wr := [(aH, oX4 vH qH), (qH 7, oX7 vU qU), (qH 17, rI cy 6 vH_markNights), (qH 18, rI cy 6 vH_markPlaces), (qH 19, rZ cy 6 vH_markFound), (qR 4, rJ cy 7 vR_thingNames), (qR 3, rJ cy 4 vR_ringNames), (qH 9, rI cy 4 vH_places), (qU 1, rI cy 6 vU_things), (qU 2, rI cy 6 vU_cells), (qU 3, rI cy 6 vU_nights), (qU 4, rI cy 6 vU_worths), (qH 16, rI cy 7 vH_firstCells), (qH 14, rI cy 7 vH_kinds), (qH 15, rI cy 7 vH_sizes), (qH 12, rI cy 5 vH_doorOne), (qH 13, rI cy 5 vH_doorTwo), (qH 11, rI cy 36 vH_width), (qH 8, rI cy 4 vH_sorts), (qH 10, rI cy 36 vH_next)]) (ws2 := (wX5_readLine cy aR qR aH qH qU aH vR_j11 vR vR_tape vH vU vH_markNights vH_markPlaces vH_markFound vR_thingNames vR_ringNames vH_places vU_things vU_cells vU_nights vU_worths vH_firstCells vH_kinds vH_sizes vH_doorOne vH_doorTwo vH_width vH_sorts vH_next)) (kRunVS (As := []) (rest := []) ⟨hx, hb, hml, hown, ht0⟩ (kX5_isName l D cy ad _ aR qR aH vR_j11 vR vR_tape r23 hc23 _ rfl) (cwV 0 ht0 (gV wd366 wd367 wd368 wd276 wd369) rfl rfl rfl (by decide +kernel) ⟨Nat.le_of_ble_eq_true rfl, Nat.le_of_ble_eq_true rfl⟩) hK hN hP hD hSt hS hA [0, 1] rfl (by decide) 0 4 rfl rfl rfl hl.1 rfl (Nat.le_of_ble_eq_true rfl) dX5_readLine_23 ⟨Nat.zero_le _, Nat.zero_le _⟩) hP hD hS hA [0, 1] [2, 3, 4, 5, 6, 7, 8, 9, 10, 11, 12, 13, 14, 15, 16, 17, 18, 19, 20, 21] rfl rfl (by decide) (by decide) [20, 21, 0, 1, 2, 3, 4, 5, 6, 7, 8, 9, 10, 11, 12, 13, 14, 15, 16, 17, 18, 19] (by decide) rfl rfl (fun H locs hP hD hS => ?_)
      refine lv_if_eq (tgt := 35) hx hb dX5_readLine_26 (by decide) (fun c26 => ?_) (fun c26 => ?_)
      · have hok := k_pos c26 hok
        refine lv_aload_n hx hb dX5_readLine_35 rfl (lv_at hl 0 rfl) ?_
        refine va_get (D := D) (ci := 4) (v := .int (vR 5)) (C := RX5) (T := TX5) (N := 13) hx hb ht0 niX5 hown hK hP 0 rfl rfl 5 (by decide) (ht0 _ wd340) (fun _ h9 => h9) rfl dX5_readLine_36 ?_
        refine lv_if_ne (tgt := 49) hx hb dX5_readLine_39 (by decide) (fun c39 => ?_) (fun c39 => ?_)
        · have hok := k_neg c39 hok
          refine lv_aload_n hx hb dX5_readLine_49 rfl (lv_at hl 0 rfl) ?_
          obtain ⟨r50, hc50, hok⟩ := k_bind hok
          refine kCi (wc := (wX5_isMany cy aR qR aH qH qU aH vR_j11 vR vR_tape vH vU)) (wc2 := (wX5_isMany cy aR qR aH qH qU aH vR_j11 vR vR_tape vH vU)) (wr := [(qH 17, rI cy 6 vH_markNights), (qH 18, rI cy 6 vH_markPlaces), (qH 19, rZ cy 6 vH_markFound), (qR 4, rJ cy 7 vR_thingNames), (qR 3, rJ cy 4 vR_ringNames), (qH 9, rI cy 4 vH_places), (qU 1, rI cy 6 vU_things), (qU 2, rI cy 6 vU_cells), (qU 3, rI cy 6 vU_nights), (qU 4, rI cy 6 vU_worths), (qH 16, rI cy 7 vH_firstCells), (qH 14, rI cy 7 vH_kinds), (qH 15, rI cy 7 vH_sizes), (qH 12, rI cy 5 vH_doorOne), (qH 13, rI cy 5 vH_doorTwo), (qH 11, rI cy 36 vH_width), (qH 8, rI cy 4 vH_sorts), (qH 10, rI cy 36 vH_next)]) (ws2 := (wX5_readLine cy aR qR aH qH qU aH vR_j11 vR vR_tape vH vU vH_markNights vH_markPlaces vH_markFound vR_thingNames vR_ringNames vH_places vU_things vU_cells vU_nights vU_worths vH_firstCells vH_kinds vH_sizes vH_doorOne vH_doorTwo vH_width vH_sorts vH_next)) (kRunVS (As := []) (rest := []) ⟨hx, hb, hml, hown, ht0⟩ (kX5_isMany l D cy ad _ aR qR aH qH qU vR_j11 vR vR_tape vH vU r50 hc50 _ rfl) (cwV 0 ht0 (gV wd429 wd430 wd431 wd276 wd432) rfl rfl rfl (by decide +kernel) ⟨Nat.le_of_ble_eq_true rfl, Nat.le_of_ble_eq_true rfl⟩) hK hN hP hD hSt hS hA [0, 1, 2, 3] rfl (by decide) 0 4 rfl rfl rfl hl.1 rfl (Nat.le_of_ble_eq_true rfl) dX5_readLine_50 ⟨Nat.zero_le _, Nat.zero_le _⟩) hP hD hS hA [0, 1, 2, 3] [4, 5, 6, 7, 8, 9, 10, 11, 12, 13, 14, 15, 16, 17, 18, 19, 20, 21] rfl rfl (by decide) (by decide) [18, 19, 20, 21, 0, 1, 2, 3, 4, 5, 6, 7, 8, 9, 10, 11, 12, 13, 14, 15, 16, 17] (by decide) rfl rfl (fun H locs hP hD hS => ?_)
          refine lv_if_eq (tgt := 62) hx hb dX5_readLine_53 (by decide) (fun c53 => ?_) (fun c53 => ?_)
          · have hok := k_pos c53 hok
            refine lv_aload_n hx hb dX5_readLine_62 rfl (lv_at hl 0 rfl) ?_
            refine va_ldcS (own := RX5) (tx := "ring") (index := 104) (q := ad.1 18) hx hb hown (hSt.2.1 (RX5, 104, "ring", 18) (List.mem_of_getElem? (i := 1) rfl)) dX5_readLine_63 ?_
            obtain ⟨r65, hc65, hok⟩ := k_bind hok
            refine kCi (wc := (wX5_says cy aR qR aH aH vR_j11 vR vR_tape)) (wc2 := (wX5_says cy aR qR aH aH vR_j11 vR vR_tape)) (wr := [(aH, oX4 vH qH), (qH 7, oX7 vU qU), (qH 17, rI cy 6 vH_markNights), (qH 18, rI cy 6 vH_markPlaces), (qH 19, rZ cy 6 vH_markFound), (qR 4, rJ cy 7 vR_thingNames), (qR 3, rJ cy 4 vR_ringNames), (qH 9, rI cy 4 vH_places), (qU 1, rI cy 6 vU_things), (qU 2, rI cy 6 vU_cells), (qU 3, rI cy 6 vU_nights), (qU 4, rI cy 6 vU_worths), (qH 16, rI cy 7 vH_firstCells), (qH 14, rI cy 7 vH_kinds), (qH 15, rI cy 7 vH_sizes), (qH 12, rI cy 5 vH_doorOne), (qH 13, rI cy 5 vH_doorTwo), (qH 11, rI cy 36 vH_width), (qH 8, rI cy 4 vH_sorts), (qH 10, rI cy 36 vH_next)]) (ws2 := (wX5_readLine cy aR qR aH qH qU aH vR_j11 vR vR_tape vH vU vH_markNights vH_markPlaces vH_markFound vR_thingNames vR_ringNames vH_places vU_things vU_cells vU_nights vU_worths vH_firstCells vH_kinds vH_sizes vH_doorOne vH_doorTwo vH_width vH_sorts vH_next)) (kRunVS (As := [.ref (ad.1 18)]) (rest := []) ⟨hx, hb, hml, hown, ht0⟩ (kX5_says l D cy ad _ aR qR aH vR_j11 vR vR_tape 18 r65 hc65 _ rfl) (cwV 1 ht0 (gV wd324 wd325 wd326 wd276 wd327) rfl rfl rfl (by decide +kernel) ⟨Nat.le_of_ble_eq_true rfl, Nat.le_of_ble_eq_true rfl⟩) hK hN hP hD hSt hS hA [0, 1] rfl (by decide) 0 4 rfl rfl rfl hl.1 rfl (Nat.le_of_ble_eq_true rfl) dX5_readLine_65 ⟨Nat.zero_le _, Nat.zero_le _⟩) hP hD hS hA [0, 1] [2, 3, 4, 5, 6, 7, 8, 9, 10, 11, 12, 13, 14, 15, 16, 17, 18, 19, 20, 21] rfl rfl (by decide) (by decide) [20, 21, 0, 1, 2, 3, 4, 5, 6, 7, 8, 9, 10, 11, 12, 13, 14, 15, 16, 17, 18, 19] (by decide) rfl rfl (fun H locs hP hD hS => ?_)
            refine lv_if_eq (tgt := 76) hx hb dX5_readLine_68 (by decide) (fun c68 => ?_) (fun c68 => ?_)
            · have hok := k_pos c68 hok
              refine lv_aload_n hx hb dX5_readLine_76 rfl (lv_at hl 0 rfl) ?_
              refine va_ldcS (own := RX5) (tx := "narrow") (index := 106) (q := ad.1 11) hx hb hown (hSt.2.1 (RX5, 106, "narrow", 11) (List.mem_of_getElem? (i := 2) rfl)) dX5_readLine_77 ?_
              obtain ⟨r79, hc79, hok⟩ := k_bind hok
              refine kCi (wc := (wX5_says cy aR qR aH aH vR_j11 vR vR_tape)) (wc2 := (wX5_says cy aR qR aH aH vR_j11 vR vR_tape)) (wr := [(aH, oX4 vH qH), (qH 7, oX7 vU qU), (qH 17, rI cy 6 vH_markNights), (qH 18, rI cy 6 vH_markPlaces), (qH 19, rZ cy 6 vH_markFound), (qR 4, rJ cy 7 vR_thingNames), (qR 3, rJ cy 4 vR_ringNames), (qH 9, rI cy 4 vH_places), (qU 1, rI cy 6 vU_things), (qU 2, rI cy 6 vU_cells), (qU 3, rI cy 6 vU_nights), (qU 4, rI cy 6 vU_worths), (qH 16, rI cy 7 vH_firstCells), (qH 14, rI cy 7 vH_kinds), (qH 15, rI cy 7 vH_sizes), (qH 12, rI cy 5 vH_doorOne), (qH 13, rI cy 5 vH_doorTwo), (qH 11, rI cy 36 vH_width), (qH 8, rI cy 4 vH_sorts), (qH 10, rI cy 36 vH_next)]) (ws2 := (wX5_readLine cy aR qR aH qH qU aH vR_j11 vR vR_tape vH vU vH_markNights vH_markPlaces vH_markFound vR_thingNames vR_ringNames vH_places vU_things vU_cells vU_nights vU_worths vH_firstCells vH_kinds vH_sizes vH_doorOne vH_doorTwo vH_width vH_sorts vH_next)) (kRunVS (As := [.ref (ad.1 11)]) (rest := []) ⟨hx, hb, hml, hown, ht0⟩ (kX5_says l D cy ad _ aR qR aH vR_j11 vR vR_tape 11 r79 hc79 _ rfl) (cwV 1 ht0 (gV wd324 wd325 wd326 wd276 wd327) rfl rfl rfl (by decide +kernel) ⟨Nat.le_of_ble_eq_true rfl, Nat.le_of_ble_eq_true rfl⟩) hK hN hP hD hSt hS hA [0, 1] rfl (by decide) 0 4 rfl rfl rfl hl.1 rfl (Nat.le_of_ble_eq_true rfl) dX5_readLine_79 ⟨Nat.zero_le _, Nat.zero_le _⟩) hP hD hS hA [0, 1] [2, 3, 4, 5, 6, 7, 8, 9, 10, 11, 12, 13, 14, 15, 16, 17, 18, 19, 20, 21] rfl rfl (by decide) (by decide) [20, 21, 0, 1, 2, 3, 4, 5, 6, 7, 8, 9, 10, 11, 12, 13, 14, 15, 16, 17, 18, 19] (by decide) rfl rfl (fun H locs hP hD hS => ?_)
              refine lv_if_eq (tgt := 90) hx hb dX5_readLine_82 (by decide) (fun c82 => ?_) (fun c82 => ?_)
              · have hok := k_pos c82 hok
                refine lv_aload_n hx hb dX5_readLine_90 rfl (lv_at hl 0 rfl) ?_
                refine va_ldcS (own := RX5) (tx := "door") (index := 108) (q := ad.1 6) hx hb hown (hSt.2.1 (RX5, 108, "door", 6) (List.mem_of_getElem? (i := 3) rfl)) dX5_readLine_91 ?_
                obtain ⟨r93, hc93, hok⟩ := k_bind hok
                refine kCi (wc := (wX5_says cy aR qR aH aH vR_j11 vR vR_tape)) (wc2 := (wX5_says cy aR qR aH aH vR_j11 vR vR_tape)) (wr := [(aH, oX4 vH qH), (qH 7, oX7 vU qU), (qH 17, rI cy 6 vH_markNights), (qH 18, rI cy 6 vH_markPlaces), (qH 19, rZ cy 6 vH_markFound), (qR 4, rJ cy 7 vR_thingNames), (qR 3, rJ cy 4 vR_ringNames), (qH 9, rI cy 4 vH_places), (qU 1, rI cy 6 vU_things), (qU 2, rI cy 6 vU_cells), (qU 3, rI cy 6 vU_nights), (qU 4, rI cy 6 vU_worths), (qH 16, rI cy 7 vH_firstCells), (qH 14, rI cy 7 vH_kinds), (qH 15, rI cy 7 vH_sizes), (qH 12, rI cy 5 vH_doorOne), (qH 13, rI cy 5 vH_doorTwo), (qH 11, rI cy 36 vH_width), (qH 8, rI cy 4 vH_sorts), (qH 10, rI cy 36 vH_next)]) (ws2 := (wX5_readLine cy aR qR aH qH qU aH vR_j11 vR vR_tape vH vU vH_markNights vH_markPlaces vH_markFound vR_thingNames vR_ringNames vH_places vU_things vU_cells vU_nights vU_worths vH_firstCells vH_kinds vH_sizes vH_doorOne vH_doorTwo vH_width vH_sorts vH_next)) (kRunVS (As := [.ref (ad.1 6)]) (rest := []) ⟨hx, hb, hml, hown, ht0⟩ (kX5_says l D cy ad _ aR qR aH vR_j11 vR vR_tape 6 r93 hc93 _ rfl) (cwV 1 ht0 (gV wd324 wd325 wd326 wd276 wd327) rfl rfl rfl (by decide +kernel) ⟨Nat.le_of_ble_eq_true rfl, Nat.le_of_ble_eq_true rfl⟩) hK hN hP hD hSt hS hA [0, 1] rfl (by decide) 0 4 rfl rfl rfl hl.1 rfl (Nat.le_of_ble_eq_true rfl) dX5_readLine_93 ⟨Nat.zero_le _, Nat.zero_le _⟩) hP hD hS hA [0, 1] [2, 3, 4, 5, 6, 7, 8, 9, 10, 11, 12, 13, 14, 15, 16, 17, 18, 19, 20, 21] rfl rfl (by decide) (by decide) [20, 21, 0, 1, 2, 3, 4, 5, 6, 7, 8, 9, 10, 11, 12, 13, 14, 15, 16, 17, 18, 19] (by decide) rfl rfl (fun H locs hP hD hS => ?_)
                refine lv_if_eq (tgt := 104) hx hb dX5_readLine_96 (by decide) (fun c96 => ?_) (fun c96 => ?_)
                · have hok := k_pos c96 hok
                  refine lv_aload_n hx hb dX5_readLine_104 rfl (lv_at hl 0 rfl) ?_
                  refine va_ldcS (own := RX5) (tx := "thing") (index := 110) (q := ad.1 20) hx hb hown (hSt.2.1 (RX5, 110, "thing", 20) (List.mem_of_getElem? (i := 4) rfl)) dX5_readLine_105 ?_
                  obtain ⟨r107, hc107, hok⟩ := k_bind hok
                  refine kCi (wc := (wX5_says cy aR qR aH aH vR_j11 vR vR_tape)) (wc2 := (wX5_says cy aR qR aH aH vR_j11 vR vR_tape)) (wr := [(aH, oX4 vH qH), (qH 7, oX7 vU qU), (qH 17, rI cy 6 vH_markNights), (qH 18, rI cy 6 vH_markPlaces), (qH 19, rZ cy 6 vH_markFound), (qR 4, rJ cy 7 vR_thingNames), (qR 3, rJ cy 4 vR_ringNames), (qH 9, rI cy 4 vH_places), (qU 1, rI cy 6 vU_things), (qU 2, rI cy 6 vU_cells), (qU 3, rI cy 6 vU_nights), (qU 4, rI cy 6 vU_worths), (qH 16, rI cy 7 vH_firstCells), (qH 14, rI cy 7 vH_kinds), (qH 15, rI cy 7 vH_sizes), (qH 12, rI cy 5 vH_doorOne), (qH 13, rI cy 5 vH_doorTwo), (qH 11, rI cy 36 vH_width), (qH 8, rI cy 4 vH_sorts), (qH 10, rI cy 36 vH_next)]) (ws2 := (wX5_readLine cy aR qR aH qH qU aH vR_j11 vR vR_tape vH vU vH_markNights vH_markPlaces vH_markFound vR_thingNames vR_ringNames vH_places vU_things vU_cells vU_nights vU_worths vH_firstCells vH_kinds vH_sizes vH_doorOne vH_doorTwo vH_width vH_sorts vH_next)) (kRunVS (As := [.ref (ad.1 20)]) (rest := []) ⟨hx, hb, hml, hown, ht0⟩ (kX5_says l D cy ad _ aR qR aH vR_j11 vR vR_tape 20 r107 hc107 _ rfl) (cwV 1 ht0 (gV wd324 wd325 wd326 wd276 wd327) rfl rfl rfl (by decide +kernel) ⟨Nat.le_of_ble_eq_true rfl, Nat.le_of_ble_eq_true rfl⟩) hK hN hP hD hSt hS hA [0, 1] rfl (by decide) 0 4 rfl rfl rfl hl.1 rfl (Nat.le_of_ble_eq_true rfl) dX5_readLine_107 ⟨Nat.zero_le _, Nat.zero_le _⟩) hP hD hS hA [0, 1] [2, 3, 4, 5, 6, 7, 8, 9, 10, 11, 12, 13, 14, 15, 16, 17, 18, 19, 20, 21] rfl rfl (by decide) (by decide) [20, 21, 0, 1, 2, 3, 4, 5, 6, 7, 8, 9, 10, 11, 12, 13, 14, 15, 16, 17, 18, 19] (by decide) rfl rfl (fun H locs hP hD hS => ?_)
                  refine lv_if_eq (tgt := 118) hx hb dX5_readLine_110 (by decide) (fun c110 => ?_) (fun c110 => ?_)
                  · have hok := k_pos c110 hok
                    refine lv_aload_n hx hb dX5_readLine_118 rfl (lv_at hl 0 rfl) ?_
                    refine va_ldcS (own := RX5) (tx := "want") (index := 112) (q := ad.1 21) hx hb hown (hSt.2.1 (RX5, 112, "want", 21) (List.mem_of_getElem? (i := 5) rfl)) dX5_readLine_119 ?_
                    obtain ⟨r121, hc121, hok⟩ := k_bind hok
                    refine kCi (wc := (wX5_says cy aR qR aH aH vR_j11 vR vR_tape)) (wc2 := (wX5_says cy aR qR aH aH vR_j11 vR vR_tape)) (wr := [(aH, oX4 vH qH), (qH 7, oX7 vU qU), (qH 17, rI cy 6 vH_markNights), (qH 18, rI cy 6 vH_markPlaces), (qH 19, rZ cy 6 vH_markFound), (qR 4, rJ cy 7 vR_thingNames), (qR 3, rJ cy 4 vR_ringNames), (qH 9, rI cy 4 vH_places), (qU 1, rI cy 6 vU_things), (qU 2, rI cy 6 vU_cells), (qU 3, rI cy 6 vU_nights), (qU 4, rI cy 6 vU_worths), (qH 16, rI cy 7 vH_firstCells), (qH 14, rI cy 7 vH_kinds), (qH 15, rI cy 7 vH_sizes), (qH 12, rI cy 5 vH_doorOne), (qH 13, rI cy 5 vH_doorTwo), (qH 11, rI cy 36 vH_width), (qH 8, rI cy 4 vH_sorts), (qH 10, rI cy 36 vH_next)]) (ws2 := (wX5_readLine cy aR qR aH qH qU aH vR_j11 vR vR_tape vH vU vH_markNights vH_markPlaces vH_markFound vR_thingNames vR_ringNames vH_places vU_things vU_cells vU_nights vU_worths vH_firstCells vH_kinds vH_sizes vH_doorOne vH_doorTwo vH_width vH_sorts vH_next)) (kRunVS (As := [.ref (ad.1 21)]) (rest := []) ⟨hx, hb, hml, hown, ht0⟩ (kX5_says l D cy ad _ aR qR aH vR_j11 vR vR_tape 21 r121 hc121 _ rfl) (cwV 1 ht0 (gV wd324 wd325 wd326 wd276 wd327) rfl rfl rfl (by decide +kernel) ⟨Nat.le_of_ble_eq_true rfl, Nat.le_of_ble_eq_true rfl⟩) hK hN hP hD hSt hS hA [0, 1] rfl (by decide) 0 4 rfl rfl rfl hl.1 rfl (Nat.le_of_ble_eq_true rfl) dX5_readLine_121 ⟨Nat.zero_le _, Nat.zero_le _⟩) hP hD hS hA [0, 1] [2, 3, 4, 5, 6, 7, 8, 9, 10, 11, 12, 13, 14, 15, 16, 17, 18, 19, 20, 21] rfl rfl (by decide) (by decide) [20, 21, 0, 1, 2, 3, 4, 5, 6, 7, 8, 9, 10, 11, 12, 13, 14, 15, 16, 17, 18, 19] (by decide) rfl rfl (fun H locs hP hD hS => ?_)
                    refine lv_if_eq (tgt := 134) hx hb dX5_readLine_124 (by decide) (fun c124 => ?_) (fun c124 => ?_)
                    · have hok := k_pos c124 hok
                      refine lv_aload_n hx hb dX5_readLine_134 rfl (lv_at hl 0 rfl) ?_
                      obtain ⟨⟨r135, vR_j11_135, vR_135, vH_135, vH_markNights_135, vH_markPlaces_135, vH_markFound_135⟩, hc135, hok⟩ := k_bind hok
                      try dsimp only at hok
                      refine kCi (wc := (wX5_readMark cy aR qR aH qH aH vR_j11 vR vR_tape vH vH_markNights vH_markPlaces vH_markFound)) (wc2 := (wX5_readMark cy aR qR aH qH aH vR_j11_135 vR_135 vR_tape vH_135 vH_markNights_135 vH_markPlaces_135 vH_markFound_135)) (wr := [(qH 7, oX7 vU qU), (qR 4, rJ cy 7 vR_thingNames), (qR 3, rJ cy 4 vR_ringNames), (qH 9, rI cy 4 vH_places), (qU 1, rI cy 6 vU_things), (qU 2, rI cy 6 vU_cells), (qU 3, rI cy 6 vU_nights), (qU 4, rI cy 6 vU_worths), (qH 16, rI cy 7 vH_firstCells), (qH 14, rI cy 7 vH_kinds), (qH 15, rI cy 7 vH_sizes), (qH 12, rI cy 5 vH_doorOne), (qH 13, rI cy 5 vH_doorTwo), (qH 11, rI cy 36 vH_width), (qH 8, rI cy 4 vH_sorts), (qH 10, rI cy 36 vH_next)]) (ws2 := (wX5_readLine cy aR qR aH qH qU aH vR_j11_135 vR_135 vR_tape vH_135 vU vH_markNights_135 vH_markPlaces_135 vH_markFound_135 vR_thingNames vR_ringNames vH_places vU_things vU_cells vU_nights vU_worths vH_firstCells vH_kinds vH_sizes vH_doorOne vH_doorTwo vH_width vH_sorts vH_next)) (kRunVS (As := []) (rest := []) ⟨hx, hb, hml, hown, ht0⟩ (kX5_readMark l D cy ad _ aR qR aH qH vR_j11 vR vR_tape vH vH_markNights vH_markPlaces vH_markFound r135 vR_j11_135 vR_135 vH_135 vH_markNights_135 vH_markPlaces_135 vH_markFound_135 hc135 _ rfl) (cwV 0 ht0 (gV wd433 wd434 wd435 wd276 wd436) rfl rfl rfl (by decide +kernel) ⟨Nat.le_of_ble_eq_true rfl, Nat.le_of_ble_eq_true rfl⟩) hK hN hP hD hSt hS hA [0, 1, 2, 4, 5, 6] rfl (by decide) 0 4 rfl rfl rfl hl.1 rfl (Nat.le_of_ble_eq_true rfl) dX5_readLine_135 ⟨Nat.zero_le _, Nat.zero_le _⟩) hP hD hS hA [0, 1, 2, 4, 5, 6] [3, 7, 8, 9, 10, 11, 12, 13, 14, 15, 16, 17, 18, 19, 20, 21] rfl rfl (by decide) (by decide) [16, 17, 18, 0, 19, 20, 21, 1, 2, 3, 4, 5, 6, 7, 8, 9, 10, 11, 12, 13, 14, 15] (by decide) rfl rfl (fun H locs hP hD hS => ?_)
                      exact J138 r135 vH_markFound_135 vH_markNights_135 vH_markPlaces_135 vU_cells vU_nights vU_things vU_worths vR_j11_135 vH_135 vR_135 vU H locs ls hP hD hS (lv_sub hl [] rfl) hok
                    · have hok := k_neg c124 hok
                      refine lv_aload_n hx hb dX5_readLine_127 rfl (lv_at hl 0 rfl) ?_
                      obtain ⟨⟨r128, vR_j11_128, vR_128, vU_128, vU_things_128, vU_cells_128, vU_nights_128, vU_worths_128⟩, hc128, hok⟩ := k_bind hok
                      try dsimp only at hok
                      refine kCi (wc := (wX5_readWant cy aR qR aH qH qU aH vR_j11 vR vR_tape vH vR_thingNames vR_ringNames vH_places vU vU_things vU_cells vU_nights vU_worths)) (wc2 := (wX5_readWant cy aR qR aH qH qU aH vR_j11_128 vR_128 vR_tape vH vR_thingNames vR_ringNames vH_places vU_128 vU_things_128 vU_cells_128 vU_nights_128 vU_worths_128)) (wr := [(qH 17, rI cy 6 vH_markNights), (qH 18, rI cy 6 vH_markPlaces), (qH 19, rZ cy 6 vH_markFound), (qH 16, rI cy 7 vH_firstCells), (qH 14, rI cy 7 vH_kinds), (qH 15, rI cy 7 vH_sizes), (qH 12, rI cy 5 vH_doorOne), (qH 13, rI cy 5 vH_doorTwo), (qH 11, rI cy 36 vH_width), (qH 8, rI cy 4 vH_sorts), (qH 10, rI cy 36 vH_next)]) (ws2 := (wX5_readLine cy aR qR aH qH qU aH vR_j11_128 vR_128 vR_tape vH vU_128 vH_markNights vH_markPlaces vH_markFound vR_thingNames vR_ringNames vH_places vU_things_128 vU_cells_128 vU_nights_128 vU_worths_128 vH_firstCells vH_kinds vH_sizes vH_doorOne vH_doorTwo vH_width vH_sorts vH_next)) (kRunVS (As := []) (rest := []) ⟨hx, hb, hml, hown, ht0⟩ (kX5_readWant l D cy ad _ aR qR aH qH qU vR_j11 vR vR_tape vH vR_thingNames vR_ringNames vH_places vU vU_things vU_cells vU_nights vU_worths r128 vR_j11_128 vR_128 vU_128 vU_things_128 vU_cells_128 vU_nights_128 vU_worths_128 hc128 _ rfl) (cwV 0 ht0 (gV wd437 wd438 wd439 wd276 wd440) rfl rfl rfl (by decide +kernel) ⟨Nat.le_of_ble_eq_true rfl, Nat.le_of_ble_eq_true rfl⟩) hK hN hP hD hSt hS hA [0, 1, 2, 7, 8, 9, 3, 10, 11, 12, 13] rfl (by decide) 0 4 rfl rfl rfl hl.1 rfl (Nat.le_of_ble_eq_true rfl) dX5_readLine_128 ⟨Nat.zero_le _, Nat.zero_le _⟩) hP hD hS hA [0, 1, 2, 7, 8, 9, 3, 10, 11, 12, 13] [4, 5, 6, 14, 15, 16, 17, 18, 19, 20, 21] rfl rfl (by decide) (by decide) [11, 12, 13, 17, 0, 1, 2, 14, 15, 16, 18, 19, 20, 21, 3, 4, 5, 6, 7, 8, 9, 10] (by decide) rfl rfl (fun H locs hP hD hS => ?_)
                      refine lv_goto (tgt := 138) hx hb dX5_readLine_131 (by decide) ?_
                      exact J138 r128 vH_markFound vH_markNights vH_markPlaces vU_cells_128 vU_nights_128 vU_things_128 vU_worths_128 vR_j11_128 vH vR_128 vU_128 H locs ls hP hD hS (lv_sub hl [] rfl) hok
                  · have hok := k_neg c110 hok
                    refine lv_aload_n hx hb dX5_readLine_113 rfl (lv_at hl 0 rfl) ?_
                    obtain ⟨⟨r114, vR_j11_114, vR_114, vH_114, vR_thingNames_114, vH_firstCells_114, vH_kinds_114, vH_sizes_114⟩, hc114, hok⟩ := k_bind hok
                    try dsimp only at hok
                    refine kCi (wc := (wX5_readThing cy aR qR aH qH aH vR_j11 vR vR_tape vH vR_ringNames vR_thingNames vH_places vH_firstCells vH_kinds vH_sizes)) (wc2 := (wX5_readThing cy aR qR aH qH aH vR_j11_114 vR_114 vR_tape vH_114 vR_ringNames vR_thingNames_114 vH_places vH_firstCells_114 vH_kinds_114 vH_sizes_114)) (wr := [(qH 7, oX7 vU qU), (qH 17, rI cy 6 vH_markNights), (qH 18, rI cy 6 vH_markPlaces), (qH 19, rZ cy 6 vH_markFound), (qU 1, rI cy 6 vU_things), (qU 2, rI cy 6 vU_cells), (qU 3, rI cy 6 vU_nights), (qU 4, rI cy 6 vU_worths), (qH 12, rI cy 5 vH_doorOne), (qH 13, rI cy 5 vH_doorTwo), (qH 11, rI cy 36 vH_width), (qH 8, rI cy 4 vH_sorts), (qH 10, rI cy 36 vH_next)]) (ws2 := (wX5_readLine cy aR qR aH qH qU aH vR_j11_114 vR_114 vR_tape vH_114 vU vH_markNights vH_markPlaces vH_markFound vR_thingNames_114 vR_ringNames vH_places vU_things vU_cells vU_nights vU_worths vH_firstCells_114 vH_kinds_114 vH_sizes_114 vH_doorOne vH_doorTwo vH_width vH_sorts vH_next)) (kRunVS (As := []) (rest := []) ⟨hx, hb, hml, hown, ht0⟩ (kX5_readThing l D cy ad _ aR qR aH qH vR_j11 vR vR_tape vH vR_ringNames vR_thingNames vH_places vH_firstCells vH_kinds vH_sizes r114 vR_j11_114 vR_114 vH_114 vR_thingNames_114 vH_firstCells_114 vH_kinds_114 vH_sizes_114 hc114 _ rfl) (cwV 0 ht0 (gV wd441 wd442 wd443 wd276 wd444) rfl rfl rfl (by decide +kernel) ⟨Nat.le_of_ble_eq_true rfl, Nat.le_of_ble_eq_true rfl⟩) hK hN hP hD hSt hS hA [0, 1, 2, 8, 7, 9, 14, 15, 16] rfl (by decide) 0 4 rfl rfl rfl hl.1 rfl (Nat.le_of_ble_eq_true rfl) dX5_readLine_114 ⟨Nat.zero_le _, Nat.zero_le _⟩) hP hD hS hA [0, 1, 2, 8, 7, 9, 14, 15, 16] [3, 4, 5, 6, 10, 11, 12, 13, 17, 18, 19, 20, 21] rfl rfl (by decide) (by decide) [13, 14, 15, 0, 1, 2, 3, 17, 16, 18, 4, 5, 6, 7, 19, 20, 21, 8, 9, 10, 11, 12] (by decide) rfl rfl (fun H locs hP hD hS => ?_)
                    obtain ⟨g117, hok⟩ := gd_some hok
                    cases hok
                    subst hQe; exact W.zret hx hb hr (isB_nar g117) (fun t ht hW => ⟨⟨_, (), rfl, rfl, by rw [ht]; exact hP, va_K.moved hW.alike hK, hD⟩, hS.F ht⟩) hS.2.2 dX5_readLine_117
                · have hok := k_neg c96 hok
                  refine lv_aload_n hx hb dX5_readLine_99 rfl (lv_at hl 0 rfl) ?_
                  obtain ⟨⟨r100, vR_j11_100, vR_100, vH_100, vH_doorOne_100, vH_doorTwo_100⟩, hc100, hok⟩ := k_bind hok
                  try dsimp only at hok
                  refine kCi (wc := (wX5_readDoor cy aR qR aH qH aH vR_j11 vR vR_tape vH vR_ringNames vH_places vH_doorOne vH_doorTwo)) (wc2 := (wX5_readDoor cy aR qR aH qH aH vR_j11_100 vR_100 vR_tape vH_100 vR_ringNames vH_places vH_doorOne_100 vH_doorTwo_100)) (wr := [(qH 7, oX7 vU qU), (qH 17, rI cy 6 vH_markNights), (qH 18, rI cy 6 vH_markPlaces), (qH 19, rZ cy 6 vH_markFound), (qR 4, rJ cy 7 vR_thingNames), (qU 1, rI cy 6 vU_things), (qU 2, rI cy 6 vU_cells), (qU 3, rI cy 6 vU_nights), (qU 4, rI cy 6 vU_worths), (qH 16, rI cy 7 vH_firstCells), (qH 14, rI cy 7 vH_kinds), (qH 15, rI cy 7 vH_sizes), (qH 11, rI cy 36 vH_width), (qH 8, rI cy 4 vH_sorts), (qH 10, rI cy 36 vH_next)]) (ws2 := (wX5_readLine cy aR qR aH qH qU aH vR_j11_100 vR_100 vR_tape vH_100 vU vH_markNights vH_markPlaces vH_markFound vR_thingNames vR_ringNames vH_places vU_things vU_cells vU_nights vU_worths vH_firstCells vH_kinds vH_sizes vH_doorOne_100 vH_doorTwo_100 vH_width vH_sorts vH_next)) (kRunVS (As := []) (rest := []) ⟨hx, hb, hml, hown, ht0⟩ (kX5_readDoor l D cy ad _ aR qR aH qH vR_j11 vR vR_tape vH vR_ringNames vH_places vH_doorOne vH_doorTwo r100 vR_j11_100 vR_100 vH_100 vH_doorOne_100 vH_doorTwo_100 hc100 _ rfl) (cwV 0 ht0 (gV wd445 wd446 wd447 wd276 wd448) rfl rfl rfl (by decide +kernel) ⟨Nat.le_of_ble_eq_true rfl, Nat.le_of_ble_eq_true rfl⟩) hK hN hP hD hSt hS hA [0, 1, 2, 8, 9, 17, 18] rfl (by decide) 0 4 rfl rfl rfl hl.1 rfl (Nat.le_of_ble_eq_true rfl) dX5_readLine_100 ⟨Nat.zero_le _, Nat.zero_le _⟩) hP hD hS hA [0, 1, 2, 8, 9, 17, 18] [3, 4, 5, 6, 7, 10, 11, 12, 13, 14, 15, 16, 19, 20, 21] rfl rfl (by decide) (by decide) [15, 16, 17, 0, 1, 2, 3, 4, 18, 19, 5, 6, 7, 8, 9, 10, 11, 20, 21, 12, 13, 14] (by decide) rfl rfl (fun H locs hP hD hS => ?_)
                  obtain ⟨g103, hok⟩ := gd_some hok
                  cases hok
                  subst hQe; exact W.zret hx hb hr (isB_nar g103) (fun t ht hW => ⟨⟨_, (), rfl, rfl, by rw [ht]; exact hP, va_K.moved hW.alike hK, hD⟩, hS.F ht⟩) hS.2.2 dX5_readLine_103
              · have hok := k_neg c82 hok
                refine lv_aload_n hx hb dX5_readLine_85 rfl (lv_at hl 0 rfl) ?_
                obtain ⟨⟨r86, vR_j11_86, vR_86, vH_86, vH_width_86⟩, hc86, hok⟩ := k_bind hok
                try dsimp only at hok
                refine kCi (wc := (wX5_readNarrow cy aR qR aH qH aH vR_j11 vR vR_tape vH vR_ringNames vH_places vH_width)) (wc2 := (wX5_readNarrow cy aR qR aH qH aH vR_j11_86 vR_86 vR_tape vH_86 vR_ringNames vH_places vH_width_86)) (wr := [(qH 7, oX7 vU qU), (qH 17, rI cy 6 vH_markNights), (qH 18, rI cy 6 vH_markPlaces), (qH 19, rZ cy 6 vH_markFound), (qR 4, rJ cy 7 vR_thingNames), (qU 1, rI cy 6 vU_things), (qU 2, rI cy 6 vU_cells), (qU 3, rI cy 6 vU_nights), (qU 4, rI cy 6 vU_worths), (qH 16, rI cy 7 vH_firstCells), (qH 14, rI cy 7 vH_kinds), (qH 15, rI cy 7 vH_sizes), (qH 12, rI cy 5 vH_doorOne), (qH 13, rI cy 5 vH_doorTwo), (qH 8, rI cy 4 vH_sorts), (qH 10, rI cy 36 vH_next)]) (ws2 := (wX5_readLine cy aR qR aH qH qU aH vR_j11_86 vR_86 vR_tape vH_86 vU vH_markNights vH_markPlaces vH_markFound vR_thingNames vR_ringNames vH_places vU_things vU_cells vU_nights vU_worths vH_firstCells vH_kinds vH_sizes vH_doorOne vH_doorTwo vH_width_86 vH_sorts vH_next)) (kRunVS (As := []) (rest := []) ⟨hx, hb, hml, hown, ht0⟩ (kX5_readNarrow l D cy ad _ aR qR aH qH vR_j11 vR vR_tape vH vR_ringNames vH_places vH_width r86 vR_j11_86 vR_86 vH_86 vH_width_86 hc86 _ rfl) (cwV 0 ht0 (gV wd449 wd450 wd451 wd276 wd452) rfl rfl rfl (by decide +kernel) ⟨Nat.le_of_ble_eq_true rfl, Nat.le_of_ble_eq_true rfl⟩) hK hN hP hD hSt hS hA [0, 1, 2, 8, 9, 19] rfl (by decide) 0 4 rfl rfl rfl hl.1 rfl (Nat.le_of_ble_eq_true rfl) dX5_readLine_86 ⟨Nat.zero_le _, Nat.zero_le _⟩) hP hD hS hA [0, 1, 2, 8, 9, 19] [3, 4, 5, 6, 7, 10, 11, 12, 13, 14, 15, 16, 17, 18, 20, 21] rfl rfl (by decide) (by decide) [16, 17, 18, 0, 1, 2, 3, 4, 19, 20, 5, 6, 7, 8, 9, 10, 11, 12, 13, 21, 14, 15] (by decide) rfl rfl (fun H locs hP hD hS => ?_)
                obtain ⟨g89, hok⟩ := gd_some hok
                cases hok
                subst hQe; exact W.zret hx hb hr (isB_nar g89) (fun t ht hW => ⟨⟨_, (), rfl, rfl, by rw [ht]; exact hP, va_K.moved hW.alike hK, hD⟩, hS.F ht⟩) hS.2.2 dX5_readLine_89
            · have hok := k_neg c68 hok
              refine lv_aload_n hx hb dX5_readLine_71 rfl (lv_at hl 0 rfl) ?_
              obtain ⟨⟨r72, vR_j11_72, vR_72, vH_72, vR_ringNames_72, vH_sorts_72, vH_places_72, vH_next_72⟩, hc72, hok⟩ := k_bind hok
              try dsimp only at hok
              refine kCi (wc := (wX5_readRing cy aR qR aH qH aH vR_j11 vR vR_tape vH vR_ringNames vR_thingNames vH_sorts vH_places vH_next)) (wc2 := (wX5_readRing cy aR qR aH qH aH vR_j11_72 vR_72 vR_tape vH_72 vR_ringNames_72 vR_thingNames vH_sorts_72 vH_places_72 vH_next_72)) (wr := [(qH 7, oX7 vU qU), (qH 17, rI cy 6 vH_markNights), (qH 18, rI cy 6 vH_markPlaces), (qH 19, rZ cy 6 vH_markFound), (qU 1, rI cy 6 vU_things), (qU 2, rI cy 6 vU_cells), (qU 3, rI cy 6 vU_nights), (qU 4, rI cy 6 vU_worths), (qH 16, rI cy 7 vH_firstCells), (qH 14, rI cy 7 vH_kinds), (qH 15, rI cy 7 vH_sizes), (qH 12, rI cy 5 vH_doorOne), (qH 13, rI cy 5 vH_doorTwo), (qH 11, rI cy 36 vH_width)]) (ws2 := (wX5_readLine cy aR qR aH qH qU aH vR_j11_72 vR_72 vR_tape vH_72 vU vH_markNights vH_markPlaces vH_markFound vR_thingNames vR_ringNames_72 vH_places_72 vU_things vU_cells vU_nights vU_worths vH_firstCells vH_kinds vH_sizes vH_doorOne vH_doorTwo vH_width vH_sorts_72 vH_next_72)) (kRunVS (As := []) (rest := []) ⟨hx, hb, hml, hown, ht0⟩ (kX5_readRing l D cy ad _ aR qR aH qH vR_j11 vR vR_tape vH vR_ringNames vR_thingNames vH_sorts vH_places vH_next r72 vR_j11_72 vR_72 vH_72 vR_ringNames_72 vH_sorts_72 vH_places_72 vH_next_72 hc72 _ rfl) (cwV 0 ht0 (gV wd453 wd454 wd455 wd276 wd456) rfl rfl rfl (by decide +kernel) ⟨Nat.le_of_ble_eq_true rfl, Nat.le_of_ble_eq_true rfl⟩) hK hN hP hD hSt hS hA [0, 1, 2, 8, 7, 20, 9, 21] rfl (by decide) 0 4 rfl rfl rfl hl.1 rfl (Nat.le_of_ble_eq_true rfl) dX5_readLine_72 ⟨Nat.zero_le _, Nat.zero_le _⟩) hP hD hS hA [0, 1, 2, 8, 7, 20, 9, 21] [3, 4, 5, 6, 10, 11, 12, 13, 14, 15, 16, 17, 18, 19] rfl rfl (by decide) (by decide) [14, 15, 16, 0, 1, 2, 3, 18, 17, 20, 4, 5, 6, 7, 8, 9, 10, 11, 12, 13, 19, 21] (by decide) rfl rfl (fun H locs hP hD hS => ?_)
              obtain ⟨g75, hok⟩ := gd_some hok
              cases hok
              subst hQe; exact W.zret hx hb hr (isB_nar g75) (fun t ht hW => ⟨⟨_, (), rfl, rfl, by rw [ht]; exact hP, va_K.moved hW.alike hK, hD⟩, hS.F ht⟩) hS.2.2 dX5_readLine_75
          · have hok := k_neg c53 hok
            refine lv_aload_n hx hb dX5_readLine_56 rfl (lv_at hl 0 rfl) ?_
            refine lv_iconst (v := 5) hx hb dX5_readLine_57 (by decide) ?_
            obtain ⟨⟨r58, vR_58⟩, hc58, hok⟩ := k_bind hok
            try dsimp only at hok
            refine kCi (wc := (wX5_fails cy aR qR aH aH vR_j11 vR)) (wc2 := (wX5_fails cy aR qR aH aH vR_j11 vR_58)) (wr := [(qR 0, rB cy 900 vR_tape), (aH, oX4 vH qH), (qH 7, oX7 vU qU), (qH 17, rI cy 6 vH_markNights), (qH 18, rI cy 6 vH_markPlaces), (qH 19, rZ cy 6 vH_markFound), (qR 4, rJ cy 7 vR_thingNames), (qR 3, rJ cy 4 vR_ringNames), (qH 9, rI cy 4 vH_places), (qU 1, rI cy 6 vU_things), (qU 2, rI cy 6 vU_cells), (qU 3, rI cy 6 vU_nights), (qU 4, rI cy 6 vU_worths), (qH 16, rI cy 7 vH_firstCells), (qH 14, rI cy 7 vH_kinds), (qH 15, rI cy 7 vH_sizes), (qH 12, rI cy 5 vH_doorOne), (qH 13, rI cy 5 vH_doorTwo), (qH 11, rI cy 36 vH_width), (qH 8, rI cy 4 vH_sorts), (qH 10, rI cy 36 vH_next)]) (ws2 := (wX5_readLine cy aR qR aH qH qU aH vR_j11 vR_58 vR_tape vH vU vH_markNights vH_markPlaces vH_markFound vR_thingNames vR_ringNames vH_places vU_things vU_cells vU_nights vU_worths vH_firstCells vH_kinds vH_sizes vH_doorOne vH_doorTwo vH_width vH_sorts vH_next)) (kRunV (As := [.int 5]) (rest := []) ⟨hx, hb, hml, hown, ht0⟩ (kX5_fails l D cy _ aR qR aH vR_j11 vR (5 : Int32) r58 vR_58 hc58 _ rfl) (cwV 1 ht0 (gV wd332 wd333 wd334 wd276 wd335) rfl rfl rfl (by decide +kernel) ⟨Nat.le_of_ble_eq_true rfl, Nat.le_of_ble_eq_true rfl⟩) hK hN hP hD [0] rfl (by decide) 0 4 rfl rfl rfl hl.1 rfl (Nat.le_of_ble_eq_true rfl) dX5_readLine_58 ⟨Nat.zero_le _, Nat.zero_le _⟩) hP hD hS hA [0] [1, 2, 3, 4, 5, 6, 7, 8, 9, 10, 11, 12, 13, 14, 15, 16, 17, 18, 19, 20, 21] rfl rfl (by decide) (by decide) [21, 0, 1, 2, 3, 4, 5, 6, 7, 8, 9, 10, 11, 12, 13, 14, 15, 16, 17, 18, 19, 20] (by decide) rfl rfl (fun H locs hP hD hS => ?_)
            obtain ⟨g61, hok⟩ := gd_some hok
            cases hok
            subst hQe; exact W.zret hx hb hr (isB_nar g61) (fun t ht hW => ⟨⟨_, (), rfl, rfl, by rw [ht]; exact hP, va_K.moved hW.alike hK, hD⟩, hS.F ht⟩) hS.2.2 dX5_readLine_61
        · have hok := k_pos c39 hok
          refine lv_aload_n hx hb dX5_readLine_42 rfl (lv_at hl 0 rfl) ?_
          refine lv_bipush (v := 6) hx hb dX5_readLine_43 (by decide) ?_
          obtain ⟨⟨r45, vR_45⟩, hc45, hok⟩ := k_bind hok
          try dsimp only at hok
          refine kCi (wc := (wX5_fails cy aR qR aH aH vR_j11 vR)) (wc2 := (wX5_fails cy aR qR aH aH vR_j11 vR_45)) (wr := [(qR 0, rB cy 900 vR_tape), (aH, oX4 vH qH), (qH 7, oX7 vU qU), (qH 17, rI cy 6 vH_markNights), (qH 18, rI cy 6 vH_markPlaces), (qH 19, rZ cy 6 vH_markFound), (qR 4, rJ cy 7 vR_thingNames), (qR 3, rJ cy 4 vR_ringNames), (qH 9, rI cy 4 vH_places), (qU 1, rI cy 6 vU_things), (qU 2, rI cy 6 vU_cells), (qU 3, rI cy 6 vU_nights), (qU 4, rI cy 6 vU_worths), (qH 16, rI cy 7 vH_firstCells), (qH 14, rI cy 7 vH_kinds), (qH 15, rI cy 7 vH_sizes), (qH 12, rI cy 5 vH_doorOne), (qH 13, rI cy 5 vH_doorTwo), (qH 11, rI cy 36 vH_width), (qH 8, rI cy 4 vH_sorts), (qH 10, rI cy 36 vH_next)]) (ws2 := (wX5_readLine cy aR qR aH qH qU aH vR_j11 vR_45 vR_tape vH vU vH_markNights vH_markPlaces vH_markFound vR_thingNames vR_ringNames vH_places vU_things vU_cells vU_nights vU_worths vH_firstCells vH_kinds vH_sizes vH_doorOne vH_doorTwo vH_width vH_sorts vH_next)) (kRunV (As := [.int 6]) (rest := []) ⟨hx, hb, hml, hown, ht0⟩ (kX5_fails l D cy _ aR qR aH vR_j11 vR (6 : Int32) r45 vR_45 hc45 _ rfl) (cwV 1 ht0 (gV wd332 wd333 wd334 wd276 wd335) rfl rfl rfl (by decide +kernel) ⟨Nat.le_of_ble_eq_true rfl, Nat.le_of_ble_eq_true rfl⟩) hK hN hP hD [0] rfl (by decide) 0 4 rfl rfl rfl hl.1 rfl (Nat.le_of_ble_eq_true rfl) dX5_readLine_45 ⟨Nat.zero_le _, Nat.zero_le _⟩) hP hD hS hA [0] [1, 2, 3, 4, 5, 6, 7, 8, 9, 10, 11, 12, 13, 14, 15, 16, 17, 18, 19, 20, 21] rfl rfl (by decide) (by decide) [21, 0, 1, 2, 3, 4, 5, 6, 7, 8, 9, 10, 11, 12, 13, 14, 15, 16, 17, 18, 19, 20] (by decide) rfl rfl (fun H locs hP hD hS => ?_)
          obtain ⟨g48, hok⟩ := gd_some hok
          cases hok
          subst hQe; exact W.zret hx hb hr (isB_nar g48) (fun t ht hW => ⟨⟨_, (), rfl, rfl, by rw [ht]; exact hP, va_K.moved hW.alike hK, hD⟩, hS.F ht⟩) hS.2.2 dX5_readLine_48
      · have hok := k_neg c26 hok
        exact J29  H locs ls hP hD hS (lv_sub hl [0] rfl) hok
  · have hok := k_neg c6 hok
    refine lv_aload_n hx hb dX5_readLine_9 rfl (lv_at hl 0 rfl) ?_
    obtain ⟨⟨r10, vR_j11_10, vR_10, vH_10⟩, hc10, hok⟩ := k_bind hok
    try dsimp only at hok
    refine kCi (wc := (wX5_readHouse cy aR qR aH qH aH vR_j11 vR vR_tape vH)) (wc2 := (wX5_readHouse cy aR qR aH qH aH vR_j11_10 vR_10 vR_tape vH_10)) (wr := [(qH 7, oX7 vU qU), (qH 17, rI cy 6 vH_markNights), (qH 18, rI cy 6 vH_markPlaces), (qH 19, rZ cy 6 vH_markFound), (qR 4, rJ cy 7 vR_thingNames), (qR 3, rJ cy 4 vR_ringNames), (qH 9, rI cy 4 vH_places), (qU 1, rI cy 6 vU_things), (qU 2, rI cy 6 vU_cells), (qU 3, rI cy 6 vU_nights), (qU 4, rI cy 6 vU_worths), (qH 16, rI cy 7 vH_firstCells), (qH 14, rI cy 7 vH_kinds), (qH 15, rI cy 7 vH_sizes), (qH 12, rI cy 5 vH_doorOne), (qH 13, rI cy 5 vH_doorTwo), (qH 11, rI cy 36 vH_width), (qH 8, rI cy 4 vH_sorts), (qH 10, rI cy 36 vH_next)]) (ws2 := (wX5_readLine cy aR qR aH qH qU aH vR_j11_10 vR_10 vR_tape vH_10 vU vH_markNights vH_markPlaces vH_markFound vR_thingNames vR_ringNames vH_places vU_things vU_cells vU_nights vU_worths vH_firstCells vH_kinds vH_sizes vH_doorOne vH_doorTwo vH_width vH_sorts vH_next)) (kRunVS (As := []) (rest := []) ⟨hx, hb, hml, hown, ht0⟩ (kX5_readHouse l D cy ad _ aR qR aH qH vR_j11 vR vR_tape vH r10 vR_j11_10 vR_10 vH_10 hc10 _ rfl) (cwV 0 ht0 (gV wd457 wd458 wd459 wd276 wd460) rfl rfl rfl (by decide +kernel) ⟨Nat.le_of_ble_eq_true rfl, Nat.le_of_ble_eq_true rfl⟩) hK hN hP hD hSt hS hA [0, 1, 2] rfl (by decide) 0 4 rfl rfl rfl hl.1 rfl (Nat.le_of_ble_eq_true rfl) dX5_readLine_10 ⟨Nat.zero_le _, Nat.zero_le _⟩) hP hD hS hA [0, 1, 2] [3, 4, 5, 6, 7, 8, 9, 10, 11, 12, 13, 14, 15, 16, 17, 18, 19, 20, 21] rfl rfl (by decide) (by decide) [19, 20, 21, 0, 1, 2, 3, 4, 5, 6, 7, 8, 9, 10, 11, 12, 13, 14, 15, 16, 17, 18] (by decide) rfl rfl (fun H locs hP hD hS => ?_)
    obtain ⟨g13, hok⟩ := gd_some hok
    cases hok
    subst hQe; exact W.zret hx hb hr (isB_nar g13) (fun t ht hW => ⟨⟨_, (), rfl, rfl, by rw [ht]; exact hP, va_K.moved hW.alike hK, hD⟩, hS.F ht⟩) hS.2.2 dX5_readLine_13
