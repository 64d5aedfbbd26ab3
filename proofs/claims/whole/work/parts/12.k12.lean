def wsX8_mostMeet : List Cond := .code yX8_mostMeet cX8_mostMeet 1 (some .int) :: W0
abbrev wX8_mostMeet (cy : Nat → ClassId) (aN : Nat) (qN : Nat → Nat) (aH : Nat) (qH : Nat → Nat) (qW : Nat → Nat) (aH0 : Nat) (qD : Nat → Nat) (fvN_5 : Nat) (fvW_4 : Nat) (vN : Nat → Int32) (vH : Nat → Int32) (vW : Nat → Int32) (vD : Nat → Int32) (vD_now : Nat → Int32) (vW_who : Nat → Int32) (vH_kinds : Nat → Int32) (vW_cells : Nat → Int32) (vH_sorts : Nat → Int32) (vW_pairs : Nat → Int32) (vH_next : Nat → Int32) (vW_inFront : Nat → Int32) (vH_sizes : Nat → Int32) (vH_width : Nat → Int32) (vH_doorOne : Nat → Int32) (vH_doorTwo : Nat → Int32) : va_W := [(aN, oX8 vN qN fvN_5), (aH, oX4 vH qH), (qN 2, oX6 vW qW fvW_4), (qN 1, oX1 vD qD), (qD 0, rI cy 9 vD_now), (qW 1, rI cy 36 vW_who), (qH 14, rI cy 7 vH_kinds), (qW 0, rI cy 7 vW_cells), (qH 8, rI cy 4 vH_sorts), (qW 3, rI cy 70 vW_pairs), (qH 10, rI cy 36 vH_next), (qW 2, rI cy 7 vW_inFront), (qH 15, rI cy 7 vH_sizes), (qH 11, rI cy 36 vH_width), (qH 12, rI cy 5 vH_doorOne), (qH 13, rI cy 5 vH_doorTwo)]
set_option maxHeartbeats 4000000 in
set_option maxRecDepth 100000 in
theorem kX8_mostMeet (l : Launch) (D : va_G) (cy : Nat → ClassId) (sz : Nat) (aN : Nat) (qN : Nat → Nat) (aH : Nat) (qH : Nat → Nat) (qW : Nat → Nat) (aH0 : Nat) (qD : Nat → Nat) (vN : Nat → Int32) (vH : Nat → Int32) (vW : Nat → Int32) (vD : Nat → Int32) (vD_now : Nat → Int32) (vW_who : Nat → Int32) (vH_kinds : Nat → Int32) (vW_cells : Nat → Int32) (vH_sorts : Nat → Int32) (vW_pairs : Nat → Int32) (vH_next : Nat → Int32) (vW_inFront : Nat → Int32) (vH_sizes : Nat → Int32) (vH_width : Nat → Int32) (vH_doorOne : Nat → Int32) (vH_doorTwo : Nat → Int32) (zr : Int32) (z_vN : Nat → Int32) (z_vW : Nat → Int32) (z_vW_who : Nat → Int32) (z_vW_cells : Nat → Int32) (z_vW_pairs : Nat → Int32) (z_vW_inFront : Nat → Int32) (z_aH0 : Nat) (hok : fX8_mostMeet aH aH0 vN vH vW vD vD_now vW_who vH_kinds vW_cells vH_sorts vW_pairs vH_next vW_inFront vH_sizes vH_width vH_doorOne vH_doorTwo = some (zr, z_vN, z_vW, z_vW_who, z_vW_cells, z_vW_pairs, z_vW_inFront, z_aH0)) (A : Nat → Prop) (hAe : va_A (wX8_mostMeet cy aN qN aH qH qW aH0 qD aH aH0 vN vH vW vD vD_now vW_who vH_kinds vW_cells vH_sorts vW_pairs vH_next vW_inFront vH_sizes vH_width vH_doorOne vH_doorTwo) sz = A) : Met l yX8_mostMeet wsX8_mostMeet ({ frames := 4, cells := 0, slots := 0, locals := 97 } : Room) (kPre D cy [.ref aN] (wX8_mostMeet cy aN qN aH qH qW aH0 qD aH aH0 vN vH vW vD vD_now vW_who vH_kinds vW_cells vH_sorts vW_pairs vH_next vW_inFront vH_sizes vH_width vH_doorOne vH_doorTwo) sz) (kQi D cy zr A (wX8_mostMeet cy aN qN aH qH qW aH0 qD aH z_aH0 z_vN vH z_vW vD vD_now z_vW_who vH_kinds z_vW_cells vH_sorts z_vW_pairs vH_next z_vW_inFront vH_sizes vH_width vH_doorOne vH_doorTwo)) 0 0 A := by
  refine Met.ofW (cc := cX8_mostMeet) (maxL := 1) (ret := (some .int)) (by decide) rfl ?_
  intro p e s m args below meth c s₁ B hml hv
  obtain ⟨rfl, hsz, hP, hK, hD0, hN⟩ := hv
  have hx := B.exec
  have hb := B.bytes
  have hr := B.returns
  have ht0 : ∀ w ∈ W0, w.before _ s = true := fun w h => atoms_spec (ws := wsX8_mostMeet) B.pre w (List.mem_cons_of_mem _ h)
  have hown : s.vm.findClass RX8 = some m.cls := findClass_of_methodNamed B.named
  have hlocks := B.notSynchronized
  subst hsz
  have hD : va_D A (wX8_mostMeet cy aN qN aH qH qW aH0 qD aH aH0 vN vH vW vD vD_now vW_who vH_kinds vW_cells vH_sorts vW_pairs vH_next vW_inFront vH_sizes vH_width vH_doorOne vH_doorTwo) := by rw [← hAe]; exact hD0.self
  have hA : ∀ q : Nat, s.heap.size ≤ q → A q := fun q h => by rw [← hAe]; exact Or.inr h
  have hS : va_S A s.heap s.heap [] := va_S.rf
  have hl := lv_entry ([.ref aN]) (n := 1) (Nat.le_of_ble_eq_true rfl)
  rw [lg_entry_eq]
  generalize (lg_sl ([.ref aN]) ++ List.replicate (1 - (lg_sl ([.ref aN])).length) Slot.unset).toArray = ls at hl ⊢
  have hl : lv_has ls 1 [(0, .ref aN)] := hl
  unfold fX8_mostMeet at hok
  obtain ⟨H, hH⟩ : ∃ H, H = s.heap := ⟨_, rfl⟩
  obtain ⟨locs, hlc⟩ : ∃ x : List Loc, x = [] := ⟨_, rfl⟩
  have hP : va_P D vwCl (wX8_mostMeet cy aN qN aH qH qW aH0 qD aH aH0 vN vH vW vD vD_now vW_who vH_kinds vW_cells vH_sorts vW_pairs vH_next vW_inFront vH_sizes vH_width vH_doorOne vH_doorTwo) H := by rw [hH]; exact hP
  have hS : va_S A s.heap H locs := by rw [hH, hlc]; exact hS
  rw [show W p l e _ s m _ below meth c s.heap [] = W p l e _ s m _ below meth c H locs from by rw [hH, hlc]]
  refine lv_aload_n hx hb dX8_mostMeet_0 rfl (lv_at hl 0 rfl) ?_
  refine va_get (D := D) (ci := 7) (v := .ref aH) (C := RX8) (T := TX8) (N := 9) hx hb ht0 niX8 hown hK hP 0 rfl rfl 5 (by decide) (ht0 _ wd522) (fun _ h9 => h9) rfl dX8_mostMeet_1 ?_
  obtain ⟨r4, hc4, hok⟩ := k_bind hok
  refine kCi (wc := (wX4_stands cy aH qH vH)) (wc2 := (wX4_stands cy aH qH vH)) (wr := [(aN, oX8 vN qN aH), (qN 2, oX6 vW qW aH0), (qN 1, oX1 vD qD), (qD 0, rI cy 9 vD_now), (qW 1, rI cy 36 vW_who), (qH 14, rI cy 7 vH_kinds), (qW 0, rI cy 7 vW_cells), (qH 8, rI cy 4 vH_sorts), (qW 3, rI cy 70 vW_pairs), (qH 10, rI cy 36 vH_next), (qW 2, rI cy 7 vW_inFront), (qH 15, rI cy 7 vH_sizes), (qH 11, rI cy 36 vH_width), (qH 12, rI cy 5 vH_doorOne), (qH 13, rI cy 5 vH_doorTwo)]) (ws2 := (wX8_mostMeet cy aN qN aH qH qW aH0 qD aH aH0 vN vH vW vD vD_now vW_who vH_kinds vW_cells vH_sorts vW_pairs vH_next vW_inFront vH_sizes vH_width vH_doorOne vH_doorTwo)) (kRunV (As := []) (rest := []) ⟨hx, hb, hml, hown, ht0⟩ (kX4_stands l D cy _ aH qH vH r4 hc4 _ rfl) (cwV 0 ht0 (gV wd577 wd462 wd463 wd9 wd464) rfl rfl rfl (by decide +kernel) ⟨Nat.le_of_ble_eq_true rfl, Nat.le_of_ble_eq_true rfl⟩) hK hN hP hD [1] rfl (by decide) 1 3 rfl rfl rfl hl.1 rfl (Nat.le_of_ble_eq_true rfl) dX8_mostMeet_4 ⟨Nat.zero_le _, Nat.zero_le _⟩) hP hD hS hA [1] [0, 2, 3, 4, 5, 6, 7, 8, 9, 10, 11, 12, 13, 14, 15] rfl rfl (by decide) (by decide) [0, 15, 1, 2, 3, 4, 5, 6, 7, 8, 9, 10, 11, 12, 13, 14] (by decide) rfl rfl (fun H locs hP hD hS => ?_)
  refine lv_if_ne (tgt := 16) hx hb dX8_mostMeet_7 (by decide) (fun c7 => ?_) (fun c7 => ?_)
  · have hok := k_neg c7 hok
    refine lv_aload_n hx hb dX8_mostMeet_16 rfl (lv_at hl 0 rfl) ?_
    refine va_get (D := D) (ci := 7) (v := .ref (qN 2)) (C := RX8) (T := TX8) (N := 9) hx hb ht0 niX8 hown hK hP 0 rfl rfl 2 (by decide) (ht0 _ wd578) (fun _ h9 => h9) rfl dX8_mostMeet_17 ?_
    refine lv_aload_n hx hb dX8_mostMeet_20 rfl (lv_at hl 0 rfl) ?_
    refine va_get (D := D) (ci := 7) (v := .ref aH) (C := RX8) (T := TX8) (N := 9) hx hb ht0 niX8 hown hK hP 0 rfl rfl 5 (by decide) (ht0 _ wd522) (fun _ h9 => h9) rfl dX8_mostMeet_21 ?_
    refine lv_aload_n hx hb dX8_mostMeet_24 rfl (lv_at hl 0 rfl) ?_
    refine va_get (D := D) (ci := 7) (v := .ref (qN 1)) (C := RX8) (T := TX8) (N := 9) hx hb ht0 niX8 hown hK hP 0 rfl rfl 1 (by decide) (ht0 _ wd527) (fun _ h9 => h9) rfl dX8_mostMeet_25 ?_
    refine lv_iconst (v := 0) hx hb dX8_mostMeet_28 (by decide) ?_
    obtain ⟨⟨vW_29, vW_who_29, vW_cells_29⟩, hc29, hok⟩ := k_bind hok
    try dsimp only at hok
    refine kCv (wc := (wX6_start cy (qN 2) aH (qN 1) qW aH0 qD qH aH0 vW vD vD_now vW_who vH vH_kinds vW_cells vH_sorts)) (wc2 := (wX6_start cy (qN 2) aH (qN 1) qW aH0 qD qH aH vW_29 vD vD_now vW_who_29 vH vH_kinds vW_cells_29 vH_sorts)) (wr := [(aN, oX8 vN qN aH), (qW 3, rI cy 70 vW_pairs), (qH 10, rI cy 36 vH_next), (qW 2, rI cy 7 vW_inFront), (qH 15, rI cy 7 vH_sizes), (qH 11, rI cy 36 vH_width), (qH 12, rI cy 5 vH_doorOne), (qH 13, rI cy 5 vH_doorTwo)]) (ws2 := (wX8_mostMeet cy aN qN aH qH qW aH0 qD aH aH vN vH vW_29 vD vD_now vW_who_29 vH_kinds vW_cells_29 vH_sorts vW_pairs vH_next vW_inFront vH_sizes vH_width vH_doorOne vH_doorTwo)) (kRunV (As := [.ref aH, .ref (qN 1), .int 0]) (rest := []) ⟨hx, hb, hml, hown, ht0⟩ (kX6_start l D cy _ (qN 2) aH (qN 1) qW aH0 qD qH vW vD vD_now vW_who vH vH_kinds vW_cells vH_sorts (0 : Int32) vW_29 vW_who_29 vW_cells_29 hc29 _ rfl) (cwV 3 ht0 (gV wd579 wd181 wd182 wd114 wd183) rfl rfl rfl (by decide +kernel) ⟨Nat.le_of_ble_eq_true rfl, Nat.le_of_ble_eq_true rfl⟩) hK hN hP hD [2, 3, 4, 5, 1, 6, 7, 8] rfl (by decide) 2 5 rfl rfl rfl hl.1 rfl (Nat.le_of_ble_eq_true rfl) dX8_mostMeet_29 ⟨Nat.zero_le _, Nat.zero_le _⟩) hP hD hS hA [2, 3, 4, 5, 1, 6, 7, 8] [0, 9, 10, 11, 12, 13, 14, 15] rfl rfl (by decide) (by decide) [0, 12, 8, 9, 10, 11, 13, 14, 15, 1, 2, 3, 4, 5, 6, 7] (by decide) rfl rfl (fun H locs hP hD hS => ?_)
    refine lv_aload_n hx hb dX8_mostMeet_32 rfl (lv_at hl 0 rfl) ?_
    refine lv_aload_n hx hb dX8_mostMeet_33 rfl (lv_at hl 0 rfl) ?_
    refine va_get (D := D) (ci := 7) (v := .ref (qN 2)) (C := RX8) (T := TX8) (N := 9) hx hb ht0 niX8 hown hK hP 0 rfl rfl 2 (by decide) (ht0 _ wd578) (fun _ h9 => h9) rfl dX8_mostMeet_34 ?_
    refine lv_bipush (v := 60) hx hb dX8_mostMeet_37 (by decide) ?_
    obtain ⟨⟨r39, vW_39, vW_pairs_39, vW_cells_39, vW_who_39, vW_inFront_39⟩, hc39, hok⟩ := k_bind hok
    try dsimp only at hok
    refine kCi (wc := (wX6_mostPair cy (qN 2) qW aH qH aH vW_29 vW_pairs vH vW_cells_29 vH_next vW_who_29 vW_inFront vH_sizes vH_width vH_kinds vH_doorOne vH_doorTwo)) (wc2 := (wX6_mostPair cy (qN 2) qW aH qH aH vW_39 vW_pairs_39 vH vW_cells_39 vH_next vW_who_39 vW_inFront_39 vH_sizes vH_width vH_kinds vH_doorOne vH_doorTwo)) (wr := [(aN, oX8 vN qN aH), (qN 1, oX1 vD qD), (qD 0, rI cy 9 vD_now), (qH 8, rI cy 4 vH_sorts)]) (ws2 := (wX8_mostMeet cy aN qN aH qH qW aH0 qD aH aH vN vH vW_39 vD vD_now vW_who_39 vH_kinds vW_cells_39 vH_sorts vW_pairs_39 vH_next vW_inFront_39 vH_sizes vH_width vH_doorOne vH_doorTwo)) (kRunV (As := [.int 60]) (rest := [.ref aN]) ⟨hx, hb, hml, hown, ht0⟩ (kX6_mostPair l D cy _ (qN 2) qW aH qH vW_29 vW_pairs vH vW_cells_29 vH_next vW_who_29 vW_inFront vH_sizes vH_width vH_kinds vH_doorOne vH_doorTwo (60 : Int32) r39 vW_39 vW_pairs_39 vW_cells_39 vW_who_39 vW_inFront_39 hc39 _ rfl) (cwV 1 ht0 (gV wd608 wd609 wd610 wd114 wd611) rfl rfl rfl (by decide +kernel) ⟨Nat.le_of_ble_eq_true rfl, Nat.le_of_ble_eq_true rfl⟩) hK hN hP hD [2, 9, 1, 7, 10, 5, 11, 12, 13, 6, 14, 15] rfl (by decide) 2 5 rfl rfl rfl hl.1 rfl (Nat.le_of_ble_eq_true rfl) dX8_mostMeet_39 ⟨Nat.zero_le _, Nat.zero_le _⟩) hP hD hS hA [2, 9, 1, 7, 10, 5, 11, 12, 13, 6, 14, 15] [0, 3, 4, 8] rfl rfl (by decide) (by decide) [0, 6, 4, 1, 2, 9, 13, 7, 3, 5, 8, 10, 11, 12, 14, 15] (by decide) rfl rfl (fun H locs hP hD hS => ?_)
    obtain ⟨⟨r42, vN_42⟩, hc42, hok⟩ := k_bind hok
    try dsimp only at hok
    refine kCi (wc := (wX8_answer cy aN qN aH aH vN)) (wc2 := (wX8_answer cy aN qN aH aH vN_42)) (wr := [(aH, oX4 vH qH), (qN 2, oX6 vW_39 qW aH), (qN 1, oX1 vD qD), (qD 0, rI cy 9 vD_now), (qW 1, rI cy 36 vW_who_39), (qH 14, rI cy 7 vH_kinds), (qW 0, rI cy 7 vW_cells_39), (qH 8, rI cy 4 vH_sorts), (qW 3, rI cy 70 vW_pairs_39), (qH 10, rI cy 36 vH_next), (qW 2, rI cy 7 vW_inFront_39), (qH 15, rI cy 7 vH_sizes), (qH 11, rI cy 36 vH_width), (qH 12, rI cy 5 vH_doorOne), (qH 13, rI cy 5 vH_doorTwo)]) (ws2 := (wX8_mostMeet cy aN qN aH qH qW aH0 qD aH aH vN_42 vH vW_39 vD vD_now vW_who_39 vH_kinds vW_cells_39 vH_sorts vW_pairs_39 vH_next vW_inFront_39 vH_sizes vH_width vH_doorOne vH_doorTwo)) (kRunV (As := [.int r39]) (rest := []) ⟨hx, hb, hml, hown, ht0⟩ (kX8_answer l D cy _ aN qN aH vN r39 r42 vN_42 hc42 _ rfl) (cwV 1 ht0 (gV wd538 wd539 wd540 wd57 wd541) rfl rfl rfl (by decide +kernel) ⟨Nat.le_of_ble_eq_true rfl, Nat.le_of_ble_eq_true rfl⟩) hK hN hP hD [0] rfl (by decide) 0 7 rfl rfl rfl hl.1 rfl (Nat.le_of_ble_eq_true rfl) dX8_mostMeet_42 ⟨Nat.zero_le _, Nat.zero_le _⟩) hP hD hS hA [0] [1, 2, 3, 4, 5, 6, 7, 8, 9, 10, 11, 12, 13, 14, 15] rfl rfl (by decide) (by decide) [15, 0, 1, 2, 3, 4, 5, 6, 7, 8, 9, 10, 11, 12, 13, 14] (by decide) rfl rfl (fun H locs hP hD hS => ?_)
    cases hok
    exact W.iret hx hb hr (fun t ht hW => ⟨⟨_, (), rfl, rfl, by rw [ht]; exact hP, va_K.moved hW.alike hK, hD⟩, hS.F ht⟩) hS.2.2 dX8_mostMeet_45
  · have hok := k_pos c7 hok
    refine lv_aload_n hx hb dX8_mostMeet_10 rfl (lv_at hl 0 rfl) ?_
    refine lv_iconst (v := 1) hx hb dX8_mostMeet_11 (by decide) ?_
    obtain ⟨⟨r12, vN_12⟩, hc12, hok⟩ := k_bind hok
    try dsimp only at hok
    refine kCi (wc := (wX8_refuse cy aN qN aH aH vN)) (wc2 := (wX8_refuse cy aN qN aH aH vN_12)) (wr := [(aH, oX4 vH qH), (qN 2, oX6 vW qW aH0), (qN 1, oX1 vD qD), (qD 0, rI cy 9 vD_now), (qW 1, rI cy 36 vW_who), (qH 14, rI cy 7 vH_kinds), (qW 0, rI cy 7 vW_cells), (qH 8, rI cy 4 vH_sorts), (qW 3, rI cy 70 vW_pairs), (qH 10, rI cy 36 vH_next), (qW 2, rI cy 7 vW_inFront), (qH 15, rI cy 7 vH_sizes), (qH 11, rI cy 36 vH_width), (qH 12, rI cy 5 vH_doorOne), (qH 13, rI cy 5 vH_doorTwo)]) (ws2 := (wX8_mostMeet cy aN qN aH qH qW aH0 qD aH aH0 vN_12 vH vW vD vD_now vW_who vH_kinds vW_cells vH_sorts vW_pairs vH_next vW_inFront vH_sizes vH_width vH_doorOne vH_doorTwo)) (kRunV (As := [.int 1]) (rest := []) ⟨hx, hb, hml, hown, ht0⟩ (kX8_refuse l D cy _ aN qN aH vN (1 : Int32) r12 vN_12 hc12 _ rfl) (cwV 1 ht0 (gV wd504 wd505 wd506 wd57 wd507) rfl rfl rfl (by decide +kernel) ⟨Nat.le_of_ble_eq_true rfl, Nat.le_of_ble_eq_true rfl⟩) hK hN hP hD [0] rfl (by decide) 0 7 rfl rfl rfl hl.1 rfl (Nat.le_of_ble_eq_true rfl) dX8_mostMeet_12 ⟨Nat.zero_le _, Nat.zero_le _⟩) hP hD hS hA [0] [1, 2, 3, 4, 5, 6, 7, 8, 9, 10, 11, 12, 13, 14, 15] rfl rfl (by decide) (by decide) [15, 0, 1, 2, 3, 4, 5, 6, 7, 8, 9, 10, 11, 12, 13, 14] (by decide) rfl rfl (fun H locs hP hD hS => ?_)
    cases hok
    exact W.iret hx hb hr (fun t ht hW => ⟨⟨_, (), rfl, rfl, by rw [ht]; exact hP, va_K.moved hW.alike hK, hD⟩, hS.F ht⟩) hS.2.2 dX8_mostMeet_15
def wsX8_toWiden : List Cond := .code yX8_toWiden cX8_toWiden 5 (some .int) :: W0
abbrev wX8_toWiden (cy : Nat → ClassId) (aN : Nat) (qN : Nat → Nat) (aH : Nat) (qH : Nat → Nat) (qW : Nat → Nat) (aH0 : Nat) (qD : Nat → Nat) (fvN_5 : Nat) (fvW_4 : Nat) (vN : Nat → Int32) (vH : Nat → Int32) (vW : Nat → Int32) (vD : Nat → Int32) (vD_now : Nat → Int32) (vW_who : Nat → Int32) (vH_kinds : Nat → Int32) (vW_cells : Nat → Int32) (vH_sorts : Nat → Int32) (vH_next : Nat → Int32) (vW_inFront : Nat → Int32) (vH_sizes : Nat → Int32) (vH_width : Nat → Int32) : va_W := [(aN, oX8 vN qN fvN_5), (aH, oX4 vH qH), (qN 2, oX6 vW qW fvW_4), (qN 1, oX1 vD qD), (qD 0, rI cy 9 vD_now), (qW 1, rI cy 36 vW_who), (qH 14, rI cy 7 vH_kinds), (qW 0, rI cy 7 vW_cells), (qH 8, rI cy 4 vH_sorts), (qH 10, rI cy 36 vH_next), (qW 2, rI cy 7 vW_inFront), (qH 15, rI cy 7 vH_sizes), (qH 11, rI cy 36 vH_width)]
set_option maxHeartbeats 4000000 in
set_option maxRecDepth 100000 in
theorem kX8_toWiden (l : Launch) (D : va_G) (cy : Nat → ClassId) (sz : Nat) (aN : Nat) (qN : Nat → Nat) (aH : Nat) (qH : Nat → Nat) (qW : Nat → Nat) (aH0 : Nat) (qD : Nat → Nat) (vN : Nat → Int32) (vH : Nat → Int32) (vW : Nat → Int32) (vD : Nat → Int32) (vD_now : Nat → Int32) (vW_who : Nat → Int32) (vH_kinds : Nat → Int32) (vW_cells : Nat → Int32) (vH_sorts : Nat → Int32) (vH_next : Nat → Int32) (vW_inFront : Nat → Int32) (vH_sizes : Nat → Int32) (vH_width : Nat → Int32) (zr : Int32) (z_vN : Nat → Int32) (z_vW : Nat → Int32) (z_vW_who : Nat → Int32) (z_vW_cells : Nat → Int32) (z_vW_inFront : Nat → Int32) (z_aH0 : Nat) (hok : fX8_toWiden aH aH0 vN vH vW vD vD_now vW_who vH_kinds vW_cells vH_sorts vH_next vW_inFront vH_sizes vH_width = some (zr, z_vN, z_vW, z_vW_who, z_vW_cells, z_vW_inFront, z_aH0)) (A : Nat → Prop) (hAe : va_A (wX8_toWiden cy aN qN aH qH qW aH0 qD aH aH0 vN vH vW vD vD_now vW_who vH_kinds vW_cells vH_sorts vH_next vW_inFront vH_sizes vH_width) sz = A) : Met l yX8_toWiden wsX8_toWiden ({ frames := 4, cells := 0, slots := 0, locals := 96 } : Room) (kPre D cy [.ref aN] (wX8_toWiden cy aN qN aH qH qW aH0 qD aH aH0 vN vH vW vD vD_now vW_who vH_kinds vW_cells vH_sorts vH_next vW_inFront vH_sizes vH_width) sz) (kQi D cy zr A (wX8_toWiden cy aN qN aH qH qW aH0 qD aH z_aH0 z_vN vH z_vW vD vD_now z_vW_who vH_kinds z_vW_cells vH_sorts vH_next z_vW_inFront vH_sizes vH_width)) 0 0 A := by
  refine Met.ofW (cc := cX8_toWiden) (maxL := 5) (ret := (some .int)) (by decide) rfl ?_
  intro p e s m args below meth c s₁ B hml hv
  obtain ⟨rfl, hsz, hP, hK, hD0, hN⟩ := hv
  have hx := B.exec
  have hb := B.bytes
  have hr := B.returns
  have ht0 : ∀ w ∈ W0, w.before _ s = true := fun w h => atoms_spec (ws := wsX8_toWiden) B.pre w (List.mem_cons_of_mem _ h)
  have hown : s.vm.findClass RX8 = some m.cls := findClass_of_methodNamed B.named
  have hlocks := B.notSynchronized
  subst hsz
  have hD : va_D A (wX8_toWiden cy aN qN aH qH qW aH0 qD aH aH0 vN vH vW vD vD_now vW_who vH_kinds vW_cells vH_sorts vH_next vW_inFront vH_sizes vH_width) := by rw [← hAe]; exact hD0.self
  have hA : ∀ q : Nat, s.heap.size ≤ q → A q := fun q h => by rw [← hAe]; exact Or.inr h
  have hS : va_S A s.heap s.heap [] := va_S.rf
  have hl := lv_entry ([.ref aN]) (n := 5) (Nat.le_of_ble_eq_true rfl)
  rw [lg_entry_eq]
  generalize (lg_sl ([.ref aN]) ++ List.replicate (5 - (lg_sl ([.ref aN])).length) Slot.unset).toArray = ls at hl ⊢
  have hl : lv_has ls 5 [(0, .ref aN)] := hl
  generalize hQe : MQ below (kQi D cy zr A (wX8_toWiden cy aN qN aH qH qW aH0 qD aH z_aH0 z_vN vH z_vW vD vD_now z_vW_who vH_kinds z_vW_cells vH_sorts vH_next z_vW_inFront vH_sizes vH_width)) ([.ref aN] : List Value).toArray s 0 0 A = Q
  have L47 : ∀ (fuel : Nat) (y1_47 : Int32) (y2_47 : Int32) (y3_47 : Int32) (vW_cells_47 : Nat → Int32) (vW_inFront_47 : Nat → Int32) (vW_who_47 : Nat → Int32) (vW_47 : Nat → Int32), ∀ (H : Heap) (locs : List Loc) (ls : Array Slot), va_P D vwCl (wX8_toWiden cy aN qN aH qH qW aH0 qD aH aH vN vH vW_47 vD vD_now vW_who_47 vH_kinds vW_cells_47 vH_sorts vH_next vW_inFront_47 vH_sizes vH_width) H → va_D A (wX8_toWiden cy aN qN aH qH qW aH0 qD aH aH vN vH vW_47 vD vD_now vW_who_47 vH_kinds vW_cells_47 vH_sorts vH_next vW_inFront_47 vH_sizes vH_width) → va_S A s.heap H locs → lv_has ls 5 [(0, .ref aN), (1, .int y1_47), (2, .int y2_47), (3, .int y3_47)] → lp (fX8_toWiden_B47 aH vN vH vD vD_now vH_kinds vH_sorts vH_next vH_sizes vH_width) fuel (y1_47, y2_47, y3_47, vW_cells_47, vW_inFront_47, vW_who_47, vW_47) = some (zr, z_vN, z_vW, z_vW_who, z_vW_cells, z_vW_inFront, z_aH0) → W p l e ({ frames := 4, cells := 0, slots := 0, locals := 96 } : Room) s m ([.ref aN] : List Value).toArray below meth c H locs 0 0 Q (F0 m 47 ls []) := by
    intro fuel
    induction fuel with
    | zero => intro y1_47 y2_47 y3_47 vW_cells_47 vW_inFront_47 vW_who_47 vW_47 H locs ls hP hD hS hl hok; exact (lp_0 hok).elim
    | succ fuel ih47 =>
      intro y1_47 y2_47 y3_47 vW_cells_47 vW_inFront_47 vW_who_47 vW_47 H locs ls hP hD hS hl hok
      obtain ⟨y47, hok, hL47, hR47⟩ := lp_step hok
      have J115 : ∀ (y1_115 : Int32) (y2_115 : Int32) (vW_cells_115 : Nat → Int32) (vW_inFront_115 : Nat → Int32) (vW_who_115 : Nat → Int32) (vW_115 : Nat → Int32), ∀ (H : Heap) (locs : List Loc) (ls : Array Slot), va_P D vwCl (wX8_toWiden cy aN qN aH qH qW aH0 qD aH aH vN vH vW_115 vD vD_now vW_who_115 vH_kinds vW_cells_115 vH_sorts vH_next vW_inFront_115 vH_sizes vH_width) H → va_D A (wX8_toWiden cy aN qN aH qH qW aH0 qD aH aH vN vH vW_115 vD vD_now vW_who_115 vH_kinds vW_cells_115 vH_sorts vH_next vW_inFront_115 vH_sizes vH_width) → va_S A s.heap H locs → lv_has ls 5 [(0, .ref aN), (1, .int y1_115), (2, .int y2_115), (3, .int y3_47)] → fX8_toWiden_J115 y3_47 y1_115 y2_115 vW_cells_115 vW_inFront_115 vW_who_115 vW_115 = some y47 → W p l e ({ frames := 4, cells := 0, slots := 0, locals := 96 } : Room) s m ([.ref aN] : List Value).toArray below meth c H locs 0 0 Q (F0 m 115 ls []) := by
        intro y1_115 y2_115 vW_cells_115 vW_inFront_115 vW_who_115 vW_115 H locs ls hP hD hS hl hok
        unfold fX8_toWiden_J115 at hok
        refine lv_iinc (v := (y3_47 + 1)) (lv' := [(3, .int (y3_47 + 1)), (0, .ref aN), (1, .int y1_115), (2, .int y2_115)]) hx hb dX8_toWiden_115 hl (k := 3) rfl (by first | rfl | decide) (by decide) rfl (fun ls hl => ?_)
        refine lv_goto (tgt := 47) hx hb dX8_toWiden_118 (by decide) ?_
        exact ih47 y1_115 y2_115 (y3_47 + 1) vW_cells_115 vW_inFront_115 vW_who_115 vW_115 H locs ls hP hD hS (lv_sub hl [1, 2, 3, 0] rfl) (hR47 _ (Option.some.inj hok).symm)
      unfold fX8_toWiden_B47 at hok
      try dsimp only at hok
      refine lv_iload_n hx hb dX8_toWiden_47 rfl (lv_at hl 3 rfl) ?_
      refine lv_bipush (v := 36) hx hb dX8_toWiden_48 (by decide) ?_
      refine lv_icmp_ge (tgt := 121) hx hb dX8_toWiden_50 (by decide) (fun c50 => ?_) (fun c50 => ?_)
      · have hok := k_pos c50 hok
        obtain ⟨e47, hok, he47⟩ := ex_some hok
        have hok := hok.trans (congrArg some (hL47 _ he47))
        refine lv_aload_n hx hb dX8_toWiden_121 rfl (lv_at hl 0 rfl) ?_
        refine lv_iload_n hx hb dX8_toWiden_122 rfl (lv_at hl 2 rfl) ?_
        obtain ⟨⟨r123, vN_123⟩, hc123, hok⟩ := k_bind hok
        try dsimp only at hok
        refine kCi (wc := (wX8_answer cy aN qN aH aH vN)) (wc2 := (wX8_answer cy aN qN aH aH vN_123)) (wr := [(aH, oX4 vH qH), (qN 2, oX6 vW_47 qW aH), (qN 1, oX1 vD qD), (qD 0, rI cy 9 vD_now), (qW 1, rI cy 36 vW_who_47), (qH 14, rI cy 7 vH_kinds), (qW 0, rI cy 7 vW_cells_47), (qH 8, rI cy 4 vH_sorts), (qH 10, rI cy 36 vH_next), (qW 2, rI cy 7 vW_inFront_47), (qH 15, rI cy 7 vH_sizes), (qH 11, rI cy 36 vH_width)]) (ws2 := (wX8_toWiden cy aN qN aH qH qW aH0 qD aH aH vN_123 vH vW_47 vD vD_now vW_who_47 vH_kinds vW_cells_47 vH_sorts vH_next vW_inFront_47 vH_sizes vH_width)) (kRunV (As := [.int y2_47]) (rest := []) ⟨hx, hb, hml, hown, ht0⟩ (kX8_answer l D cy _ aN qN aH vN y2_47 r123 vN_123 hc123 _ rfl) (cwV 1 ht0 (gV wd538 wd539 wd540 wd57 wd541) rfl rfl rfl (by decide +kernel) ⟨Nat.le_of_ble_eq_true rfl, Nat.le_of_ble_eq_true rfl⟩) hK hN hP hD [0] rfl (by decide) 0 7 rfl rfl rfl hl.1 rfl (Nat.le_of_ble_eq_true rfl) dX8_toWiden_123 ⟨Nat.zero_le _, Nat.zero_le _⟩) hP hD hS hA [0] [1, 2, 3, 4, 5, 6, 7, 8, 9, 10, 11, 12] rfl rfl (by decide) (by decide) [12, 0, 1, 2, 3, 4, 5, 6, 7, 8, 9, 10, 11] (by decide) rfl rfl (fun H locs hP hD hS => ?_)
        cases hok
        subst hQe; exact W.iret hx hb hr (fun t ht hW => ⟨⟨_, (), rfl, rfl, by rw [ht]; exact hP, va_K.moved hW.alike hK, hD⟩, hS.F ht⟩) hS.2.2 dX8_toWiden_126
      · have hok := k_neg c50 hok
        refine lv_aload_n hx hb dX8_toWiden_53 rfl (lv_at hl 0 rfl) ?_
        refine va_get (D := D) (ci := 7) (v := .ref aH) (C := RX8) (T := TX8) (N := 9) hx hb ht0 niX8 hown hK hP 0 rfl rfl 5 (by decide) (ht0 _ wd522) (fun _ h9 => h9) rfl dX8_toWiden_54 ?_
        refine lv_iload_n hx hb dX8_toWiden_57 rfl (lv_at hl 3 rfl) ?_
        obtain ⟨r58, hc58, hok⟩ := k_bind hok
        refine kCi (wc := (wX4_widthOf cy aH qH vH vH_width)) (wc2 := (wX4_widthOf cy aH qH vH vH_width)) (wr := [(aN, oX8 vN qN aH), (qN 2, oX6 vW_47 qW aH), (qN 1, oX1 vD qD), (qD 0, rI cy 9 vD_now), (qW 1, rI cy 36 vW_who_47), (qH 14, rI cy 7 vH_kinds), (qW 0, rI cy 7 vW_cells_47), (qH 8, rI cy 4 vH_sorts), (qH 10, rI cy 36 vH_next), (qW 2, rI cy 7 vW_inFront_47), (qH 15, rI cy 7 vH_sizes)]) (ws2 := (wX8_toWiden cy aN qN aH qH qW aH0 qD aH aH vN vH vW_47 vD vD_now vW_who_47 vH_kinds vW_cells_47 vH_sorts vH_next vW_inFront_47 vH_sizes vH_width)) (kRunV (As := [.int y3_47]) (rest := []) ⟨hx, hb, hml, hown, ht0⟩ (kX4_widthOf l D cy _ aH qH vH vH_width y3_47 r58 hc58 _ rfl) (cwV 1 ht0 (gV wd575 wd393 wd394 wd9 wd395) rfl rfl rfl (by decide +kernel) ⟨Nat.le_of_ble_eq_true rfl, Nat.le_of_ble_eq_true rfl⟩) hK hN hP hD [1, 12] rfl (by decide) 1 3 rfl rfl rfl hl.1 rfl (Nat.le_of_ble_eq_true rfl) dX8_toWiden_58 ⟨Nat.zero_le _, Nat.zero_le _⟩) hP hD hS hA [1, 12] [0, 2, 3, 4, 5, 6, 7, 8, 9, 10, 11] rfl rfl (by decide) (by decide) [0, 11, 1, 2, 3, 4, 5, 6, 7, 8, 9, 10, 12] (by decide) rfl rfl (fun H locs hP hD hS => ?_)
        refine lv_bipush (v := 10) hx hb dX8_toWiden_61 (by decide) ?_
        refine lv_icmp_eq (tgt := 115) hx hb dX8_toWiden_63 (by decide) (fun c63 => ?_) (fun c63 => ?_)
        · have hok := k_pos c63 hok
          exact J115 y1_47 y2_47 vW_cells_47 vW_inFront_47 vW_who_47 vW_47 H locs ls hP hD hS (lv_sub hl [0, 1, 2, 3] rfl) hok
        · have hok := k_neg c63 hok
          refine lv_aload_n hx hb dX8_toWiden_66 rfl (lv_at hl 0 rfl) ?_
          refine va_get (D := D) (ci := 7) (v := .ref (qN 2)) (C := RX8) (T := TX8) (N := 9) hx hb ht0 niX8 hown hK hP 0 rfl rfl 2 (by decide) (ht0 _ wd578) (fun _ h9 => h9) rfl dX8_toWiden_67 ?_
          refine lv_aload_n hx hb dX8_toWiden_70 rfl (lv_at hl 0 rfl) ?_
          refine va_get (D := D) (ci := 7) (v := .ref aH) (C := RX8) (T := TX8) (N := 9) hx hb ht0 niX8 hown hK hP 0 rfl rfl 5 (by decide) (ht0 _ wd522) (fun _ h9 => h9) rfl dX8_toWiden_71 ?_
          refine lv_aload_n hx hb dX8_toWiden_74 rfl (lv_at hl 0 rfl) ?_
          refine va_get (D := D) (ci := 7) (v := .ref (qN 1)) (C := RX8) (T := TX8) (N := 9) hx hb ht0 niX8 hown hK hP 0 rfl rfl 1 (by decide) (ht0 _ wd527) (fun _ h9 => h9) rfl dX8_toWiden_75 ?_
          refine lv_iconst (v := 0) hx hb dX8_toWiden_78 (by decide) ?_
          obtain ⟨⟨vW_79, vW_who_79, vW_cells_79⟩, hc79, hok⟩ := k_bind hok
          try dsimp only at hok
          refine kCv (wc := (wX6_start cy (qN 2) aH (qN 1) qW aH qD qH aH vW_47 vD vD_now vW_who_47 vH vH_kinds vW_cells_47 vH_sorts)) (wc2 := (wX6_start cy (qN 2) aH (qN 1) qW aH qD qH aH vW_79 vD vD_now vW_who_79 vH vH_kinds vW_cells_79 vH_sorts)) (wr := [(aN, oX8 vN qN aH), (qH 10, rI cy 36 vH_next), (qW 2, rI cy 7 vW_inFront_47), (qH 15, rI cy 7 vH_sizes), (qH 11, rI cy 36 vH_width)]) (ws2 := (wX8_toWiden cy aN qN aH qH qW aH0 qD aH aH vN vH vW_79 vD vD_now vW_who_79 vH_kinds vW_cells_79 vH_sorts vH_next vW_inFront_47 vH_sizes vH_width)) (kRunV (As := [.ref aH, .ref (qN 1), .int 0]) (rest := []) ⟨hx, hb, hml, hown, ht0⟩ (kX6_start l D cy _ (qN 2) aH (qN 1) qW aH qD qH vW_47 vD vD_now vW_who_47 vH vH_kinds vW_cells_47 vH_sorts (0 : Int32) vW_79 vW_who_79 vW_cells_79 hc79 _ rfl) (cwV 3 ht0 (gV wd579 wd181 wd182 wd114 wd183) rfl rfl rfl (by decide +kernel) ⟨Nat.le_of_ble_eq_true rfl, Nat.le_of_ble_eq_true rfl⟩) hK hN hP hD [2, 3, 4, 5, 1, 6, 7, 8] rfl (by decide) 2 5 rfl rfl rfl hl.1 rfl (Nat.le_of_ble_eq_true rfl) dX8_toWiden_79 ⟨Nat.zero_le _, Nat.zero_le _⟩) hP hD hS hA [2, 3, 4, 5, 1, 6, 7, 8] [0, 9, 10, 11, 12] rfl rfl (by decide) (by decide) [0, 9, 5, 6, 7, 8, 10, 11, 12, 1, 2, 3, 4] (by decide) rfl rfl (fun H locs hP hD hS => ?_)
          refine lv_aload_n hx hb dX8_toWiden_82 rfl (lv_at hl 0 rfl) ?_
          refine va_get (D := D) (ci := 7) (v := .ref (qN 2)) (C := RX8) (T := TX8) (N := 9) hx hb ht0 niX8 hown hK hP 0 rfl rfl 2 (by decide) (ht0 _ wd578) (fun _ h9 => h9) rfl dX8_toWiden_83 ?_
          refine lv_iload_n hx hb dX8_toWiden_86 rfl (lv_at hl 3 rfl) ?_
          obtain ⟨vW_87, hc87, hok⟩ := k_bind hok
          refine kCv (wc := (wX6_widen cy (qN 2) qW aH aH vW_79)) (wc2 := (wX6_widen cy (qN 2) qW aH aH vW_87)) (wr := [(aN, oX8 vN qN aH), (aH, oX4 vH qH), (qN 1, oX1 vD qD), (qD 0, rI cy 9 vD_now), (qW 1, rI cy 36 vW_who_79), (qH 14, rI cy 7 vH_kinds), (qW 0, rI cy 7 vW_cells_79), (qH 8, rI cy 4 vH_sorts), (qH 10, rI cy 36 vH_next), (qW 2, rI cy 7 vW_inFront_47), (qH 15, rI cy 7 vH_sizes), (qH 11, rI cy 36 vH_width)]) (ws2 := (wX8_toWiden cy aN qN aH qH qW aH0 qD aH aH vN vH vW_87 vD vD_now vW_who_79 vH_kinds vW_cells_79 vH_sorts vH_next vW_inFront_47 vH_sizes vH_width)) (kRunV (As := [.int y3_47]) (rest := []) ⟨hx, hb, hml, hown, ht0⟩ (kX6_widen l D cy _ (qN 2) qW aH vW_79 y3_47 vW_87 hc87 _ rfl) (cwV 1 ht0 (gV wd612 wd613 wd614 wd114 wd615) rfl rfl rfl (by decide +kernel) ⟨Nat.le_of_ble_eq_true rfl, Nat.le_of_ble_eq_true rfl⟩) hK hN hP hD [2] rfl (by decide) 2 5 rfl rfl rfl hl.1 rfl (Nat.le_of_ble_eq_true rfl) dX8_toWiden_87 ⟨Nat.zero_le _, Nat.zero_le _⟩) hP hD hS hA [2] [0, 1, 3, 4, 5, 6, 7, 8, 9, 10, 11, 12] rfl rfl (by decide) (by decide) [0, 1, 12, 2, 3, 4, 5, 6, 7, 8, 9, 10, 11] (by decide) rfl rfl (fun H locs hP hD hS => ?_)
          refine lv_aload_n hx hb dX8_toWiden_90 rfl (lv_at hl 0 rfl) ?_
          refine va_get (D := D) (ci := 7) (v := .ref (qN 2)) (C := RX8) (T := TX8) (N := 9) hx hb ht0 niX8 hown hK hP 0 rfl rfl 2 (by decide) (ht0 _ wd578) (fun _ h9 => h9) rfl dX8_toWiden_91 ?_
          refine lv_bipush (v := 60) hx hb dX8_toWiden_94 (by decide) ?_
          obtain ⟨⟨r96, vW_96, vW_cells_96, vW_who_96, vW_inFront_96⟩, hc96, hok⟩ := k_bind hok
          try dsimp only at hok
          refine kCi (wc := (wX6_goOn cy (qN 2) qW aH qH aH vW_87 vH vW_cells_79 vH_next vW_who_79 vW_inFront_47 vH_sizes vH_width vH_kinds)) (wc2 := (wX6_goOn cy (qN 2) qW aH qH aH vW_96 vH vW_cells_96 vH_next vW_who_96 vW_inFront_96 vH_sizes vH_width vH_kinds)) (wr := [(aN, oX8 vN qN aH), (qN 1, oX1 vD qD), (qD 0, rI cy 9 vD_now), (qH 8, rI cy 4 vH_sorts)]) (ws2 := (wX8_toWiden cy aN qN aH qH qW aH0 qD aH aH vN vH vW_96 vD vD_now vW_who_96 vH_kinds vW_cells_96 vH_sorts vH_next vW_inFront_96 vH_sizes vH_width)) (kRunV (As := [.int 60]) (rest := []) ⟨hx, hb, hml, hown, ht0⟩ (kX6_goOn l D cy _ (qN 2) qW aH qH vW_87 vH vW_cells_79 vH_next vW_who_79 vW_inFront_47 vH_sizes vH_width vH_kinds (60 : Int32) r96 vW_96 vW_cells_96 vW_who_96 vW_inFront_96 hc96 _ rfl) (cwV 1 ht0 (gV wd593 wd185 wd186 wd114 wd187) rfl rfl rfl (by decide +kernel) ⟨Nat.le_of_ble_eq_true rfl, Nat.le_of_ble_eq_true rfl⟩) hK hN hP hD [2, 1, 7, 9, 5, 10, 11, 12, 6] rfl (by decide) 2 5 rfl rfl rfl hl.1 rfl (Nat.le_of_ble_eq_true rfl) dX8_toWiden_96 ⟨Nat.zero_le _, Nat.zero_le _⟩) hP hD hS hA [2, 1, 7, 9, 5, 10, 11, 12, 6] [0, 3, 4, 8] rfl rfl (by decide) (by decide) [0, 5, 4, 1, 2, 8, 12, 6, 3, 7, 9, 10, 11] (by decide) rfl rfl (fun H locs hP hD hS => ?_)
          refine lv_istore (lv' := [(4, .int r96), (0, .ref aN), (1, .int y1_47), (2, .int y2_47), (3, .int y3_47)]) hx hb dX8_toWiden_99 hl (by decide) rfl (fun ls hl => ?_)
          refine lv_iload hx hb dX8_toWiden_101 (lv_at hl 0 rfl) ?_
          refine lv_iload_n hx hb dX8_toWiden_103 rfl (lv_at hl 2 rfl) ?_
          refine lv_icmp_le (tgt := 115) hx hb dX8_toWiden_104 (by decide) (fun c104 => ?_) (fun c104 => ?_)
          · have hok := k_pos c104 hok
            exact J115 y1_47 y2_47 vW_cells_96 vW_inFront_96 vW_who_96 vW_96 H locs ls hP hD hS (lv_sub hl [1, 2, 3, 4] rfl) hok
          · have hok := k_neg c104 hok
            refine lv_iload hx hb dX8_toWiden_107 (lv_at hl 0 rfl) ?_
            refine lv_istore_n (lv' := [(1, .int r96), (4, .int r96), (0, .ref aN), (2, .int y2_47), (3, .int y3_47)]) hx hb dX8_toWiden_109 rfl hl (by decide) rfl (fun ls hl => ?_)
            refine lv_iload_n hx hb dX8_toWiden_110 rfl (lv_at hl 4 rfl) ?_
            obtain ⟨r111, hc111, hok⟩ := k_bind hok
            refine kCi (wc := (wX8_tenfold cy )) (wc2 := (wX8_tenfold cy )) (wr := [(aN, oX8 vN qN aH), (aH, oX4 vH qH), (qN 2, oX6 vW_96 qW aH), (qN 1, oX1 vD qD), (qD 0, rI cy 9 vD_now), (qW 1, rI cy 36 vW_who_96), (qH 14, rI cy 7 vH_kinds), (qW 0, rI cy 7 vW_cells_96), (qH 8, rI cy 4 vH_sorts), (qH 10, rI cy 36 vH_next), (qW 2, rI cy 7 vW_inFront_96), (qH 15, rI cy 7 vH_sizes), (qH 11, rI cy 36 vH_width)]) (ws2 := (wX8_toWiden cy aN qN aH qH qW aH0 qD aH aH vN vH vW_96 vD vD_now vW_who_96 vH_kinds vW_cells_96 vH_sorts vH_next vW_inFront_96 vH_sizes vH_width)) (kRunS (As := [.int y3_47]) (rest := []) ⟨hx, hb, hml, hown, ht0⟩ (kX8_tenfold l D cy _ y3_47 r111 hc111 _ rfl) (va_cwS 1 ht0 (gS wd595 wd596 wd57 wd597) rfl rfl rfl (by decide +kernel) ⟨Nat.le_of_ble_eq_true rfl, Nat.le_of_ble_eq_true rfl⟩) hK hN hP hD [] rfl (by decide) rfl hl.1 rfl (Nat.le_of_ble_eq_true rfl) dX8_toWiden_111 ⟨Nat.zero_le _, Nat.zero_le _⟩) hP hD hS hA [] [0, 1, 2, 3, 4, 5, 6, 7, 8, 9, 10, 11, 12] rfl rfl (by decide) (by decide) [0, 1, 2, 3, 4, 5, 6, 7, 8, 9, 10, 11, 12] (by decide) rfl rfl (fun H locs hP hD hS => ?_)
            refine lv_istore_n (lv' := [(2, .int r111), (1, .int r96), (4, .int r96), (0, .ref aN), (3, .int y3_47)]) hx hb dX8_toWiden_114 rfl hl (by decide) rfl (fun ls hl => ?_)
            exact J115 r96 r111 vW_cells_96 vW_inFront_96 vW_who_96 vW_96 H locs ls hP hD hS (lv_sub hl [3, 1, 0, 4] rfl) hok
  unfold fX8_toWiden at hok
  obtain ⟨H, hH⟩ : ∃ H, H = s.heap := ⟨_, rfl⟩
  obtain ⟨locs, hlc⟩ : ∃ x : List Loc, x = [] := ⟨_, rfl⟩
  have hP : va_P D vwCl (wX8_toWiden cy aN qN aH qH qW aH0 qD aH aH0 vN vH vW vD vD_now vW_who vH_kinds vW_cells vH_sorts vH_next vW_inFront vH_sizes vH_width) H := by rw [hH]; exact hP
  have hS : va_S A s.heap H locs := by rw [hH, hlc]; exact hS
  rw [show W p l e _ s m _ below meth c s.heap [] = W p l e _ s m _ below meth c H locs from by rw [hH, hlc]]
  refine lv_aload_n hx hb dX8_toWiden_0 rfl (lv_at hl 0 rfl) ?_
  refine va_get (D := D) (ci := 7) (v := .ref aH) (C := RX8) (T := TX8) (N := 9) hx hb ht0 niX8 hown hK hP 0 rfl rfl 5 (by decide) (ht0 _ wd522) (fun _ h9 => h9) rfl dX8_toWiden_1 ?_
  obtain ⟨r4, hc4, hok⟩ := k_bind hok
  refine kCi (wc := (wX4_stands cy aH qH vH)) (wc2 := (wX4_stands cy aH qH vH)) (wr := [(aN, oX8 vN qN aH), (qN 2, oX6 vW qW aH0), (qN 1, oX1 vD qD), (qD 0, rI cy 9 vD_now), (qW 1, rI cy 36 vW_who), (qH 14, rI cy 7 vH_kinds), (qW 0, rI cy 7 vW_cells), (qH 8, rI cy 4 vH_sorts), (qH 10, rI cy 36 vH_next), (qW 2, rI cy 7 vW_inFront), (qH 15, rI cy 7 vH_sizes), (qH 11, rI cy 36 vH_width)]) (ws2 := (wX8_toWiden cy aN qN aH qH qW aH0 qD aH aH0 vN vH vW vD vD_now vW_who vH_kinds vW_cells vH_sorts vH_next vW_inFront vH_sizes vH_width)) (kRunV (As := []) (rest := []) ⟨hx, hb, hml, hown, ht0⟩ (kX4_stands l D cy _ aH qH vH r4 hc4 _ rfl) (cwV 0 ht0 (gV wd577 wd462 wd463 wd9 wd464) rfl rfl rfl (by decide +kernel) ⟨Nat.le_of_ble_eq_true rfl, Nat.le_of_ble_eq_true rfl⟩) hK hN hP hD [1] rfl (by decide) 1 3 rfl rfl rfl hl.1 rfl (Nat.le_of_ble_eq_true rfl) dX8_toWiden_4 ⟨Nat.zero_le _, Nat.zero_le _⟩) hP hD hS hA [1] [0, 2, 3, 4, 5, 6, 7, 8, 9, 10, 11, 12] rfl rfl (by decide) (by decide) [0, 12, 1, 2, 3, 4, 5, 6, 7, 8, 9, 10, 11] (by decide) rfl rfl (fun H locs hP hD hS => ?_)
  refine lv_if_ne (tgt := 16) hx hb dX8_toWiden_7 (by decide) (fun c7 => ?_) (fun c7 => ?_)
  · have hok := k_neg c7 hok
    refine lv_aload_n hx hb dX8_toWiden_16 rfl (lv_at hl 0 rfl) ?_
    refine va_get (D := D) (ci := 7) (v := .ref (qN 2)) (C := RX8) (T := TX8) (N := 9) hx hb ht0 niX8 hown hK hP 0 rfl rfl 2 (by decide) (ht0 _ wd578) (fun _ h9 => h9) rfl dX8_toWiden_17 ?_
    refine lv_aload_n hx hb dX8_toWiden_20 rfl (lv_at hl 0 rfl) ?_
    refine va_get (D := D) (ci := 7) (v := .ref aH) (C := RX8) (T := TX8) (N := 9) hx hb ht0 niX8 hown hK hP 0 rfl rfl 5 (by decide) (ht0 _ wd522) (fun _ h9 => h9) rfl dX8_toWiden_21 ?_
    refine lv_aload_n hx hb dX8_toWiden_24 rfl (lv_at hl 0 rfl) ?_
    refine va_get (D := D) (ci := 7) (v := .ref (qN 1)) (C := RX8) (T := TX8) (N := 9) hx hb ht0 niX8 hown hK hP 0 rfl rfl 1 (by decide) (ht0 _ wd527) (fun _ h9 => h9) rfl dX8_toWiden_25 ?_
    refine lv_iconst (v := 0) hx hb dX8_toWiden_28 (by decide) ?_
    obtain ⟨⟨vW_29, vW_who_29, vW_cells_29⟩, hc29, hok⟩ := k_bind hok
    try dsimp only at hok
    refine kCv (wc := (wX6_start cy (qN 2) aH (qN 1) qW aH0 qD qH aH0 vW vD vD_now vW_who vH vH_kinds vW_cells vH_sorts)) (wc2 := (wX6_start cy (qN 2) aH (qN 1) qW aH0 qD qH aH vW_29 vD vD_now vW_who_29 vH vH_kinds vW_cells_29 vH_sorts)) (wr := [(aN, oX8 vN qN aH), (qH 10, rI cy 36 vH_next), (qW 2, rI cy 7 vW_inFront), (qH 15, rI cy 7 vH_sizes), (qH 11, rI cy 36 vH_width)]) (ws2 := (wX8_toWiden cy aN qN aH qH qW aH0 qD aH aH vN vH vW_29 vD vD_now vW_who_29 vH_kinds vW_cells_29 vH_sorts vH_next vW_inFront vH_sizes vH_width)) (kRunV (As := [.ref aH, .ref (qN 1), .int 0]) (rest := []) ⟨hx, hb, hml, hown, ht0⟩ (kX6_start l D cy _ (qN 2) aH (qN 1) qW aH0 qD qH vW vD vD_now vW_who vH vH_kinds vW_cells vH_sorts (0 : Int32) vW_29 vW_who_29 vW_cells_29 hc29 _ rfl) (cwV 3 ht0 (gV wd579 wd181 wd182 wd114 wd183) rfl rfl rfl (by decide +kernel) ⟨Nat.le_of_ble_eq_true rfl, Nat.le_of_ble_eq_true rfl⟩) hK hN hP hD [2, 3, 4, 5, 1, 6, 7, 8] rfl (by decide) 2 5 rfl rfl rfl hl.1 rfl (Nat.le_of_ble_eq_true rfl) dX8_toWiden_29 ⟨Nat.zero_le _, Nat.zero_le _⟩) hP hD hS hA [2, 3, 4, 5, 1, 6, 7, 8] [0, 9, 10, 11, 12] rfl rfl (by decide) (by decide) [0, 9, 5, 6, 7, 8, 10, 11, 12, 1, 2, 3, 4] (by decide) rfl rfl (fun H locs hP hD hS => ?_)
    refine lv_aload_n hx hb dX8_toWiden_32 rfl (lv_at hl 0 rfl) ?_
    refine va_get (D := D) (ci := 7) (v := .ref (qN 2)) (C := RX8) (T := TX8) (N := 9) hx hb ht0 niX8 hown hK hP 0 rfl rfl 2 (by decide) (ht0 _ wd578) (fun _ h9 => h9) rfl dX8_toWiden_33 ?_
    refine lv_bipush (v := 60) hx hb dX8_toWiden_36 (by decide) ?_
    obtain ⟨⟨r38, vW_38, vW_cells_38, vW_who_38, vW_inFront_38⟩, hc38, hok⟩ := k_bind hok
    try dsimp only at hok
    refine kCi (wc := (wX6_goOn cy (qN 2) qW aH qH aH vW_29 vH vW_cells_29 vH_next vW_who_29 vW_inFront vH_sizes vH_width vH_kinds)) (wc2 := (wX6_goOn cy (qN 2) qW aH qH aH vW_38 vH vW_cells_38 vH_next vW_who_38 vW_inFront_38 vH_sizes vH_width vH_kinds)) (wr := [(aN, oX8 vN qN aH), (qN 1, oX1 vD qD), (qD 0, rI cy 9 vD_now), (qH 8, rI cy 4 vH_sorts)]) (ws2 := (wX8_toWiden cy aN qN aH qH qW aH0 qD aH aH vN vH vW_38 vD vD_now vW_who_38 vH_kinds vW_cells_38 vH_sorts vH_next vW_inFront_38 vH_sizes vH_width)) (kRunV (As := [.int 60]) (rest := []) ⟨hx, hb, hml, hown, ht0⟩ (kX6_goOn l D cy _ (qN 2) qW aH qH vW_29 vH vW_cells_29 vH_next vW_who_29 vW_inFront vH_sizes vH_width vH_kinds (60 : Int32) r38 vW_38 vW_cells_38 vW_who_38 vW_inFront_38 hc38 _ rfl) (cwV 1 ht0 (gV wd593 wd185 wd186 wd114 wd187) rfl rfl rfl (by decide +kernel) ⟨Nat.le_of_ble_eq_true rfl, Nat.le_of_ble_eq_true rfl⟩) hK hN hP hD [2, 1, 7, 9, 5, 10, 11, 12, 6] rfl (by decide) 2 5 rfl rfl rfl hl.1 rfl (Nat.le_of_ble_eq_true rfl) dX8_toWiden_38 ⟨Nat.zero_le _, Nat.zero_le _⟩) hP hD hS hA [2, 1, 7, 9, 5, 10, 11, 12, 6] [0, 3, 4, 8] rfl rfl (by decide) (by decide) [0, 5, 4, 1, 2, 8, 12, 6, 3, 7, 9, 10, 11] (by decide) rfl rfl (fun H locs hP hD hS => ?_)
    refine lv_istore_n (lv' := [(1, .int r38), (0, .ref aN)]) hx hb dX8_toWiden_41 rfl hl (by decide) rfl (fun ls hl => ?_)
    refine lv_bipush (v := -2) hx hb dX8_toWiden_42 (by decide) ?_
    refine lv_istore_n (lv' := [(2, .int (-2)), (1, .int r38), (0, .ref aN)]) hx hb dX8_toWiden_44 rfl hl (by decide) rfl (fun ls hl => ?_)
    refine lv_iconst (v := 0) hx hb dX8_toWiden_45 (by decide) ?_
    refine lv_istore_n (lv' := [(3, .int 0), (2, .int (-2)), (1, .int r38), (0, .ref aN)]) hx hb dX8_toWiden_46 rfl hl (by decide) rfl (fun ls hl => ?_)
    exact L47 5000 r38 (-2 : Int32) (0 : Int32) vW_cells_38 vW_inFront_38 vW_who_38 vW_38 H locs ls hP hD hS (lv_sub hl [3, 2, 1, 0] rfl) hok
  · have hok := k_pos c7 hok
    refine lv_aload_n hx hb dX8_toWiden_10 rfl (lv_at hl 0 rfl) ?_
    refine lv_iconst (v := 1) hx hb dX8_toWiden_11 (by decide) ?_
    obtain ⟨⟨r12, vN_12⟩, hc12, hok⟩ := k_bind hok
    try dsimp only at hok
    refine kCi (wc := (wX8_refuse cy aN qN aH aH vN)) (wc2 := (wX8_refuse cy aN qN aH aH vN_12)) (wr := [(aH, oX4 vH qH), (qN 2, oX6 vW qW aH0), (qN 1, oX1 vD qD), (qD 0, rI cy 9 vD_now), (qW 1, rI cy 36 vW_who), (qH 14, rI cy 7 vH_kinds), (qW 0, rI cy 7 vW_cells), (qH 8, rI cy 4 vH_sorts), (qH 10, rI cy 36 vH_next), (qW 2, rI cy 7 vW_inFront), (qH 15, rI cy 7 vH_sizes), (qH 11, rI cy 36 vH_width)]) (ws2 := (wX8_toWiden cy aN qN aH qH qW aH0 qD aH aH0 vN_12 vH vW vD vD_now vW_who vH_kinds vW_cells vH_sorts vH_next vW_inFront vH_sizes vH_width)) (kRunV (As := [.int 1]) (rest := []) ⟨hx, hb, hml, hown, ht0⟩ (kX8_refuse l D cy _ aN qN aH vN (1 : Int32) r12 vN_12 hc12 _ rfl) (cwV 1 ht0 (gV wd504 wd505 wd506 wd57 wd507) rfl rfl rfl (by decide +kernel) ⟨Nat.le_of_ble_eq_true rfl, Nat.le_of_ble_eq_true rfl⟩) hK hN hP hD [0] rfl (by decide) 0 7 rfl rfl rfl hl.1 rfl (Nat.le_of_ble_eq_true rfl) dX8_toWiden_12 ⟨Nat.zero_le _, Nat.zero_le _⟩) hP hD hS hA [0] [1, 2, 3, 4, 5, 6, 7, 8, 9, 10, 11, 12] rfl rfl (by decide) (by decide) [12, 0, 1, 2, 3, 4, 5, 6, 7, 8, 9, 10, 11] (by decide) rfl rfl (fun H locs hP hD hS => ?_)
    cases hok
    subst hQe; exact W.iret hx hb hr (fun t ht hW => ⟨⟨_, (), rfl, rfl, by rw [ht]; exact hP, va_K.moved hW.alike hK, hD⟩, hS.F ht⟩) hS.2.2 dX8_toWiden_15
def wsX8_worstHeld : List Cond := .code yX8_worstHeld cX8_worstHeld 6 (some .int) :: W0
abbrev wX8_worstHeld (cy : Nat → ClassId) (aN : Nat) (qN : Nat → Nat) (aH : Nat) (qH : Nat → Nat) (qW : Nat → Nat) (aH0 : Nat) (qD : Nat → Nat) (fvN_5 : Nat) (fvW_4 : Nat) (vN : Nat → Int32) (vH : Nat → Int32) (vW : Nat → Int32) (vD : Nat → Int32) (vD_now : Nat → Int32) (vW_who : Nat → Int32) (vH_kinds : Nat → Int32) (vW_cells : Nat → Int32) (vH_sorts : Nat → Int32) (vH_next : Nat → Int32) (vW_inFront : Nat → Int32) (vH_sizes : Nat → Int32) (vH_width : Nat → Int32) : va_W := [(aN, oX8 vN qN fvN_5), (aH, oX4 vH qH), (qN 2, oX6 vW qW fvW_4), (qN 1, oX1 vD qD), (qD 0, rI cy 9 vD_now), (qW 1, rI cy 36 vW_who), (qH 14, rI cy 7 vH_kinds), (qW 0, rI cy 7 vW_cells), (qH 8, rI cy 4 vH_sorts), (qH 10, rI cy 36 vH_next), (qW 2, rI cy 7 vW_inFront), (qH 15, rI cy 7 vH_sizes), (qH 11, rI cy 36 vH_width)]
set_option maxHeartbeats 4000000 in
set_option maxRecDepth 100000 in
theorem kX8_worstHeld (l : Launch) (D : va_G) (cy : Nat → ClassId) (sz : Nat) (aN : Nat) (qN : Nat → Nat) (aH : Nat) (qH : Nat → Nat) (qW : Nat → Nat) (aH0 : Nat) (qD : Nat → Nat) (vN : Nat → Int32) (vH : Nat → Int32) (vW : Nat → Int32) (vD : Nat → Int32) (vD_now : Nat → Int32) (vW_who : Nat → Int32) (vH_kinds : Nat → Int32) (vW_cells : Nat → Int32) (vH_sorts : Nat → Int32) (vH_next : Nat → Int32) (vW_inFront : Nat → Int32) (vH_sizes : Nat → Int32) (vH_width : Nat → Int32) (x1 : Int32) (zr : Int32) (z_vN : Nat → Int32) (z_vW : Nat → Int32) (z_vW_who : Nat → Int32) (z_vW_cells : Nat → Int32) (z_vW_inFront : Nat → Int32) (z_aH0 : Nat) (hok : fX8_worstHeld aH aH0 vN vH vW vD vD_now vW_who vH_kinds vW_cells vH_sorts vH_next vW_inFront vH_sizes vH_width x1 = some (zr, z_vN, z_vW, z_vW_who, z_vW_cells, z_vW_inFront, z_aH0)) (A : Nat → Prop) (hAe : va_A (wX8_worstHeld cy aN qN aH qH qW aH0 qD aH aH0 vN vH vW vD vD_now vW_who vH_kinds vW_cells vH_sorts vH_next vW_inFront vH_sizes vH_width) sz = A) : Met l yX8_worstHeld wsX8_worstHeld ({ frames := 4, cells := 0, slots := 0, locals := 96 } : Room) (kPre D cy [.ref aN, .int x1] (wX8_worstHeld cy aN qN aH qH qW aH0 qD aH aH0 vN vH vW vD vD_now vW_who vH_kinds vW_cells vH_sorts vH_next vW_inFront vH_sizes vH_width) sz) (kQi D cy zr A (wX8_worstHeld cy aN qN aH qH qW aH0 qD aH z_aH0 z_vN vH z_vW vD vD_now z_vW_who vH_kinds z_vW_cells vH_sorts vH_next z_vW_inFront vH_sizes vH_width)) 0 0 A := by
  refine Met.ofW (cc := cX8_worstHeld) (maxL := 6) (ret := (some .int)) (by decide) rfl ?_
  intro p e s m args below meth c s₁ B hml hv
  obtain ⟨rfl, hsz, hP, hK, hD0, hN⟩ := hv
  have hx := B.exec
  have hb := B.bytes
  have hr := B.returns
  have ht0 : ∀ w ∈ W0, w.before _ s = true := fun w h => atoms_spec (ws := wsX8_worstHeld) B.pre w (List.mem_cons_of_mem _ h)
  have hown : s.vm.findClass RX8 = some m.cls := findClass_of_methodNamed B.named
  have hlocks := B.notSynchronized
  subst hsz
  have hD : va_D A (wX8_worstHeld cy aN qN aH qH qW aH0 qD aH aH0 vN vH vW vD vD_now vW_who vH_kinds vW_cells vH_sorts vH_next vW_inFront vH_sizes vH_width) := by rw [← hAe]; exact hD0.self
  have hA : ∀ q : Nat, s.heap.size ≤ q → A q := fun q h => by rw [← hAe]; exact Or.inr h
  have hS : va_S A s.heap s.heap [] := va_S.rf
  have hl := lv_entry ([.ref aN, .int x1]) (n := 6) (Nat.le_of_ble_eq_true rfl)
  rw [lg_entry_eq]
  generalize (lg_sl ([.ref aN, .int x1]) ++ List.replicate (6 - (lg_sl ([.ref aN, .int x1])).length) Slot.unset).toArray = ls at hl ⊢
  have hl : lv_has ls 6 [(0, .ref aN), (1, .int x1)] := hl
  generalize hQe : MQ below (kQi D cy zr A (wX8_worstHeld cy aN qN aH qH qW aH0 qD aH z_aH0 z_vN vH z_vW vD vD_now z_vW_who vH_kinds z_vW_cells vH_sorts vH_next z_vW_inFront vH_sizes vH_width)) ([.ref aN, .int x1] : List Value).toArray s 0 0 A = Q
  have L40 : ∀ (fuel : Nat) (y2_40 : Int32) (y3_40 : Int32) (y4_40 : Int32) (vW_cells_40 : Nat → Int32) (vW_inFront_40 : Nat → Int32) (vW_who_40 : Nat → Int32) (vW_4_40 : Nat) (vW_40 : Nat → Int32), ∀ (H : Heap) (locs : List Loc) (ls : Array Slot), va_P D vwCl (wX8_worstHeld cy aN qN aH qH qW aH0 qD aH vW_4_40 vN vH vW_40 vD vD_now vW_who_40 vH_kinds vW_cells_40 vH_sorts vH_next vW_inFront_40 vH_sizes vH_width) H → va_D A (wX8_worstHeld cy aN qN aH qH qW aH0 qD aH vW_4_40 vN vH vW_40 vD vD_now vW_who_40 vH_kinds vW_cells_40 vH_sorts vH_next vW_inFront_40 vH_sizes vH_width) → va_S A s.heap H locs → lv_has ls 6 [(0, .ref aN), (1, .int x1), (2, .int y2_40), (3, .int y3_40), (4, .int y4_40)] → lp (fX8_worstHeld_B40 aH vN vH vD vD_now vH_kinds vH_sorts vH_next vH_sizes vH_width x1) fuel (y2_40, y3_40, y4_40, vW_cells_40, vW_inFront_40, vW_who_40, vW_4_40, vW_40) = some (zr, z_vN, z_vW, z_vW_who, z_vW_cells, z_vW_inFront, z_aH0) → W p l e ({ frames := 4, cells := 0, slots := 0, locals := 96 } : Room) s m ([.ref aN, .int x1] : List Value).toArray below meth c H locs 0 0 Q (F0 m 40 ls []) := by
    intro fuel
    induction fuel with
    | zero => intro y2_40 y3_40 y4_40 vW_cells_40 vW_inFront_40 vW_who_40 vW_4_40 vW_40 H locs ls hP hD hS hl hok; exact (lp_0 hok).elim
    | succ fuel ih40 =>
      intro y2_40 y3_40 y4_40 vW_cells_40 vW_inFront_40 vW_who_40 vW_4_40 vW_40 H locs ls hP hD hS hl hok
      obtain ⟨y40, hok, hL40, hR40⟩ := lp_step hok
      have J99 : ∀ (y2_99 : Int32) (y3_99 : Int32) (vW_cells_99 : Nat → Int32) (vW_inFront_99 : Nat → Int32) (vW_who_99 : Nat → Int32) (vW_99 : Nat → Int32), ∀ (H : Heap) (locs : List Loc) (ls : Array Slot), va_P D vwCl (wX8_worstHeld cy aN qN aH qH qW aH0 qD aH aH vN vH vW_99 vD vD_now vW_who_99 vH_kinds vW_cells_99 vH_sorts vH_next vW_inFront_99 vH_sizes vH_width) H → va_D A (wX8_worstHeld cy aN qN aH qH qW aH0 qD aH aH vN vH vW_99 vD vD_now vW_who_99 vH_kinds vW_cells_99 vH_sorts vH_next vW_inFront_99 vH_sizes vH_width) → va_S A s.heap H locs → lv_has ls 6 [(0, .ref aN), (1, .int x1), (2, .int y2_99), (3, .int y3_99), (4, .int y4_40)] → fX8_worstHeld_J99 aH y4_40 y2_99 y3_99 vW_cells_99 vW_inFront_99 vW_who_99 vW_99 = some y40 → W p l e ({ frames := 4, cells := 0, slots := 0, locals := 96 } : Room) s m ([.ref aN, .int x1] : List Value).toArray below meth c H locs 0 0 Q (F0 m 99 ls []) := by
        intro y2_99 y3_99 vW_cells_99 vW_inFront_99 vW_who_99 vW_99 H locs ls hP hD hS hl hok
        unfold fX8_worstHeld_J99 at hok
        refine lv_iinc (v := (y4_40 + 1)) (lv' := [(4, .int (y4_40 + 1)), (0, .ref aN), (1, .int x1), (2, .int y2_99), (3, .int y3_99)]) hx hb dX8_worstHeld_99 hl (k := 4) rfl (by first | rfl | decide) (by decide) rfl (fun ls hl => ?_)
        refine lv_goto (tgt := 40) hx hb dX8_worstHeld_102 (by decide) ?_
        exact ih40 y2_99 y3_99 (y4_40 + 1) vW_cells_99 vW_inFront_99 vW_who_99 aH vW_99 H locs ls hP hD hS (lv_sub hl [1, 2, 3, 4, 0] rfl) (hR40 _ (Option.some.inj hok).symm)
      have J93 : ∀ (y5_93 : Int32) (vW_cells_93 : Nat → Int32) (vW_inFront_93 : Nat → Int32) (vW_who_93 : Nat → Int32) (vW_93 : Nat → Int32), ∀ (H : Heap) (locs : List Loc) (ls : Array Slot), va_P D vwCl (wX8_worstHeld cy aN qN aH qH qW aH0 qD aH aH vN vH vW_93 vD vD_now vW_who_93 vH_kinds vW_cells_93 vH_sorts vH_next vW_inFront_93 vH_sizes vH_width) H → va_D A (wX8_worstHeld cy aN qN aH qH qW aH0 qD aH aH vN vH vW_93 vD vD_now vW_who_93 vH_kinds vW_cells_93 vH_sorts vH_next vW_inFront_93 vH_sizes vH_width) → va_S A s.heap H locs → lv_has ls 6 [(0, .ref aN), (1, .int x1), (4, .int y4_40), (5, .int y5_93)] → fX8_worstHeld_J93 aH y4_40 y5_93 vW_cells_93 vW_inFront_93 vW_who_93 vW_93 = some y40 → W p l e ({ frames := 4, cells := 0, slots := 0, locals := 96 } : Room) s m ([.ref aN, .int x1] : List Value).toArray below meth c H locs 0 0 Q (F0 m 93 ls []) := by
        intro y5_93 vW_cells_93 vW_inFront_93 vW_who_93 vW_93 H locs ls hP hD hS hl hok
        unfold fX8_worstHeld_J93 at hok
        refine lv_iload hx hb dX8_worstHeld_93 (lv_at hl 3 rfl) ?_
        refine lv_istore_n (lv' := [(2, .int y5_93), (0, .ref aN), (1, .int x1), (4, .int y4_40), (5, .int y5_93)]) hx hb dX8_worstHeld_95 rfl hl (by decide) rfl (fun ls hl => ?_)
        refine lv_iload hx hb dX8_worstHeld_96 (lv_at hl 3 rfl) ?_
        refine lv_istore_n (lv' := [(3, .int y4_40), (2, .int y5_93), (0, .ref aN), (1, .int x1), (4, .int y4_40), (5, .int y5_93)]) hx hb dX8_worstHeld_98 rfl hl (by decide) rfl (fun ls hl => ?_)
        exact J99 y5_93 y4_40 vW_cells_93 vW_inFront_93 vW_who_93 vW_93 H locs ls hP hD hS (lv_sub hl [2, 3, 1, 0, 4] rfl) hok
      unfold fX8_worstHeld_B40 at hok
      try dsimp only at hok
      refine lv_iload hx hb dX8_worstHeld_40 (lv_at hl 4 rfl) ?_
      refine lv_aload_n hx hb dX8_worstHeld_42 rfl (lv_at hl 0 rfl) ?_
      refine va_get (D := D) (ci := 7) (v := .ref aH) (C := RX8) (T := TX8) (N := 9) hx hb ht0 niX8 hown hK hP 0 rfl rfl 5 (by decide) (ht0 _ wd522) (fun _ h9 => h9) rfl dX8_worstHeld_43 ?_
      refine va_get (D := D) (ci := 3) (v := .int (vH 5)) (C := RX4) (T := TX4) (N := 20) hx hb ht0 niX4 hown hK hP 1 rfl rfl 5 (by decide) (ht0 _ wd543) (fun _ h9 => h9) rfl dX8_worstHeld_46 ?_
      refine lv_icmp_ge (tgt := 105) hx hb dX8_worstHeld_49 (by decide) (fun c49 => ?_) (fun c49 => ?_)
      · have hok := k_pos c49 hok
        obtain ⟨e40, hok, he40⟩ := ex_some hok
        have hok := hok.trans (congrArg some (hL40 _ he40))
        refine lv_aload_n hx hb dX8_worstHeld_105 rfl (lv_at hl 0 rfl) ?_
        refine lv_iload_n hx hb dX8_worstHeld_106 rfl (lv_at hl 3 rfl) ?_
        obtain ⟨⟨r107, vN_107⟩, hc107, hok⟩ := k_bind hok
        try dsimp only at hok
        refine kCi (wc := (wX8_answer cy aN qN aH aH vN)) (wc2 := (wX8_answer cy aN qN aH aH vN_107)) (wr := [(aH, oX4 vH qH), (qN 2, oX6 vW_40 qW vW_4_40), (qN 1, oX1 vD qD), (qD 0, rI cy 9 vD_now), (qW 1, rI cy 36 vW_who_40), (qH 14, rI cy 7 vH_kinds), (qW 0, rI cy 7 vW_cells_40), (qH 8, rI cy 4 vH_sorts), (qH 10, rI cy 36 vH_next), (qW 2, rI cy 7 vW_inFront_40), (qH 15, rI cy 7 vH_sizes), (qH 11, rI cy 36 vH_width)]) (ws2 := (wX8_worstHeld cy aN qN aH qH qW aH0 qD aH vW_4_40 vN_107 vH vW_40 vD vD_now vW_who_40 vH_kinds vW_cells_40 vH_sorts vH_next vW_inFront_40 vH_sizes vH_width)) (kRunV (As := [.int y3_40]) (rest := []) ⟨hx, hb, hml, hown, ht0⟩ (kX8_answer l D cy _ aN qN aH vN y3_40 r107 vN_107 hc107 _ rfl) (cwV 1 ht0 (gV wd538 wd539 wd540 wd57 wd541) rfl rfl rfl (by decide +kernel) ⟨Nat.le_of_ble_eq_true rfl, Nat.le_of_ble_eq_true rfl⟩) hK hN hP hD [0] rfl (by decide) 0 7 rfl rfl rfl hl.1 rfl (Nat.le_of_ble_eq_true rfl) dX8_worstHeld_107 ⟨Nat.zero_le _, Nat.zero_le _⟩) hP hD hS hA [0] [1, 2, 3, 4, 5, 6, 7, 8, 9, 10, 11, 12] rfl rfl (by decide) (by decide) [12, 0, 1, 2, 3, 4, 5, 6, 7, 8, 9, 10, 11] (by decide) rfl rfl (fun H locs hP hD hS => ?_)
        cases hok
        subst hQe; exact W.iret hx hb hr (fun t ht hW => ⟨⟨_, (), rfl, rfl, by rw [ht]; exact hP, va_K.moved hW.alike hK, hD⟩, hS.F ht⟩) hS.2.2 dX8_worstHeld_110
      · have hok := k_neg c49 hok
        refine lv_aload_n hx hb dX8_worstHeld_52 rfl (lv_at hl 0 rfl) ?_
        refine va_get (D := D) (ci := 7) (v := .ref (qN 2)) (C := RX8) (T := TX8) (N := 9) hx hb ht0 niX8 hown hK hP 0 rfl rfl 2 (by decide) (ht0 _ wd578) (fun _ h9 => h9) rfl dX8_worstHeld_53 ?_
        refine lv_aload_n hx hb dX8_worstHeld_56 rfl (lv_at hl 0 rfl) ?_
        refine va_get (D := D) (ci := 7) (v := .ref aH) (C := RX8) (T := TX8) (N := 9) hx hb ht0 niX8 hown hK hP 0 rfl rfl 5 (by decide) (ht0 _ wd522) (fun _ h9 => h9) rfl dX8_worstHeld_57 ?_
        refine lv_aload_n hx hb dX8_worstHeld_60 rfl (lv_at hl 0 rfl) ?_
        refine va_get (D := D) (ci := 7) (v := .ref (qN 1)) (C := RX8) (T := TX8) (N := 9) hx hb ht0 niX8 hown hK hP 0 rfl rfl 1 (by decide) (ht0 _ wd527) (fun _ h9 => h9) rfl dX8_worstHeld_61 ?_
        refine lv_iconst (v := 1) hx hb dX8_worstHeld_64 (by decide) ?_
        refine lv_iload hx hb dX8_worstHeld_65 (lv_at hl 4 rfl) ?_
        refine lv_ishl hx hb dX8_worstHeld_67 ?_
        obtain ⟨⟨vW_68, vW_who_68, vW_cells_68⟩, hc68, hok⟩ := k_bind hok
        try dsimp only at hok
        refine kCv (wc := (wX6_start cy (qN 2) aH (qN 1) qW vW_4_40 qD qH vW_4_40 vW_40 vD vD_now vW_who_40 vH vH_kinds vW_cells_40 vH_sorts)) (wc2 := (wX6_start cy (qN 2) aH (qN 1) qW vW_4_40 qD qH aH vW_68 vD vD_now vW_who_68 vH vH_kinds vW_cells_68 vH_sorts)) (wr := [(aN, oX8 vN qN aH), (qH 10, rI cy 36 vH_next), (qW 2, rI cy 7 vW_inFront_40), (qH 15, rI cy 7 vH_sizes), (qH 11, rI cy 36 vH_width)]) (ws2 := (wX8_worstHeld cy aN qN aH qH qW aH0 qD aH aH vN vH vW_68 vD vD_now vW_who_68 vH_kinds vW_cells_68 vH_sorts vH_next vW_inFront_40 vH_sizes vH_width)) (kRunV (As := [.ref aH, .ref (qN 1), .int (isl (1 : Int32) y4_40)]) (rest := []) ⟨hx, hb, hml, hown, ht0⟩ (kX6_start l D cy _ (qN 2) aH (qN 1) qW vW_4_40 qD qH vW_40 vD vD_now vW_who_40 vH vH_kinds vW_cells_40 vH_sorts (isl (1 : Int32) y4_40) vW_68 vW_who_68 vW_cells_68 hc68 _ rfl) (cwV 3 ht0 (gV wd579 wd181 wd182 wd114 wd183) rfl rfl rfl (by decide +kernel) ⟨Nat.le_of_ble_eq_true rfl, Nat.le_of_ble_eq_true rfl⟩) hK hN hP hD [2, 3, 4, 5, 1, 6, 7, 8] rfl (by decide) 2 5 rfl rfl rfl hl.1 rfl (Nat.le_of_ble_eq_true rfl) dX8_worstHeld_68 ⟨Nat.zero_le _, Nat.zero_le _⟩) hP hD hS hA [2, 3, 4, 5, 1, 6, 7, 8] [0, 9, 10, 11, 12] rfl rfl (by decide) (by decide) [0, 9, 5, 6, 7, 8, 10, 11, 12, 1, 2, 3, 4] (by decide) rfl rfl (fun H locs hP hD hS => ?_)
        refine lv_aload_n hx hb dX8_worstHeld_71 rfl (lv_at hl 0 rfl) ?_
        refine va_get (D := D) (ci := 7) (v := .ref (qN 2)) (C := RX8) (T := TX8) (N := 9) hx hb ht0 niX8 hown hK hP 0 rfl rfl 2 (by decide) (ht0 _ wd578) (fun _ h9 => h9) rfl dX8_worstHeld_72 ?_
        refine lv_iload_n hx hb dX8_worstHeld_75 rfl (lv_at hl 1 rfl) ?_
        obtain ⟨⟨r76, vW_76, vW_cells_76, vW_who_76, vW_inFront_76⟩, hc76, hok⟩ := k_bind hok
        try dsimp only at hok
        refine kCi (wc := (wX6_goOn cy (qN 2) qW aH qH aH vW_68 vH vW_cells_68 vH_next vW_who_68 vW_inFront_40 vH_sizes vH_width vH_kinds)) (wc2 := (wX6_goOn cy (qN 2) qW aH qH aH vW_76 vH vW_cells_76 vH_next vW_who_76 vW_inFront_76 vH_sizes vH_width vH_kinds)) (wr := [(aN, oX8 vN qN aH), (qN 1, oX1 vD qD), (qD 0, rI cy 9 vD_now), (qH 8, rI cy 4 vH_sorts)]) (ws2 := (wX8_worstHeld cy aN qN aH qH qW aH0 qD aH aH vN vH vW_76 vD vD_now vW_who_76 vH_kinds vW_cells_76 vH_sorts vH_next vW_inFront_76 vH_sizes vH_width)) (kRunV (As := [.int x1]) (rest := []) ⟨hx, hb, hml, hown, ht0⟩ (kX6_goOn l D cy _ (qN 2) qW aH qH vW_68 vH vW_cells_68 vH_next vW_who_68 vW_inFront_40 vH_sizes vH_width vH_kinds x1 r76 vW_76 vW_cells_76 vW_who_76 vW_inFront_76 hc76 _ rfl) (cwV 1 ht0 (gV wd593 wd185 wd186 wd114 wd187) rfl rfl rfl (by decide +kernel) ⟨Nat.le_of_ble_eq_true rfl, Nat.le_of_ble_eq_true rfl⟩) hK hN hP hD [2, 1, 7, 9, 5, 10, 11, 12, 6] rfl (by decide) 2 5 rfl rfl rfl hl.1 rfl (Nat.le_of_ble_eq_true rfl) dX8_worstHeld_76 ⟨Nat.zero_le _, Nat.zero_le _⟩) hP hD hS hA [2, 1, 7, 9, 5, 10, 11, 12, 6] [0, 3, 4, 8] rfl rfl (by decide) (by decide) [0, 5, 4, 1, 2, 8, 12, 6, 3, 7, 9, 10, 11] (by decide) rfl rfl (fun H locs hP hD hS => ?_)
        refine lv_istore (lv' := [(5, .int r76), (0, .ref aN), (1, .int x1), (2, .int y2_40), (3, .int y3_40), (4, .int y4_40)]) hx hb dX8_worstHeld_79 hl (by decide) rfl (fun ls hl => ?_)
        refine lv_iload_n hx hb dX8_worstHeld_81 rfl (lv_at hl 4 rfl) ?_
        refine lv_bipush (v := -2) hx hb dX8_worstHeld_82 (by decide) ?_
        refine lv_icmp_eq (tgt := 93) hx hb dX8_worstHeld_84 (by decide) (fun c84 => ?_) (fun c84 => ?_)
        · have hok := k_pos c84 hok
          exact J93 r76 vW_cells_76 vW_inFront_76 vW_who_76 vW_76 H locs ls hP hD hS (lv_sub hl [1, 2, 5, 0] rfl) hok
        · have hok := k_neg c84 hok
          refine lv_iload hx hb dX8_worstHeld_87 (lv_at hl 0 rfl) ?_
          refine lv_iload_n hx hb dX8_worstHeld_89 rfl (lv_at hl 3 rfl) ?_
          refine lv_icmp_ge (tgt := 99) hx hb dX8_worstHeld_90 (by decide) (fun c90 => ?_) (fun c90 => ?_)
          · have hok := k_pos c90 hok
            exact J99 y2_40 y3_40 vW_cells_76 vW_inFront_76 vW_who_76 vW_76 H locs ls hP hD hS (lv_sub hl [1, 2, 3, 4, 5] rfl) hok
          · have hok := k_neg c90 hok
            exact J93 r76 vW_cells_76 vW_inFront_76 vW_who_76 vW_76 H locs ls hP hD hS (lv_sub hl [1, 2, 5, 0] rfl) hok
  have J26 : ∀ (H : Heap) (locs : List Loc) (ls : Array Slot), va_P D vwCl (wX8_worstHeld cy aN qN aH qH qW aH0 qD aH aH0 vN vH vW vD vD_now vW_who vH_kinds vW_cells vH_sorts vH_next vW_inFront vH_sizes vH_width) H → va_D A (wX8_worstHeld cy aN qN aH qH qW aH0 qD aH aH0 vN vH vW vD vD_now vW_who vH_kinds vW_cells vH_sorts vH_next vW_inFront vH_sizes vH_width) → va_S A s.heap H locs → lv_has ls 6 [(0, .ref aN)] → fX8_worstHeld_J26 aH0 vN vW vW_who vW_cells vW_inFront = some (zr, z_vN, z_vW, z_vW_who, z_vW_cells, z_vW_inFront, z_aH0) → W p l e ({ frames := 4, cells := 0, slots := 0, locals := 96 } : Room) s m ([.ref aN, .int x1] : List Value).toArray below meth c H locs 0 0 Q (F0 m 26 ls []) := by
    intro  H locs ls hP hD hS hl hok
    unfold fX8_worstHeld_J26 at hok
    refine lv_aload_n hx hb dX8_worstHeld_26 rfl (lv_at hl 0 rfl) ?_
    refine lv_iconst (v := 2) hx hb dX8_worstHeld_27 (by decide) ?_
    obtain ⟨⟨r28, vN_28⟩, hc28, hok⟩ := k_bind hok
    try dsimp only at hok
    refine kCi (wc := (wX8_refuse cy aN qN aH aH vN)) (wc2 := (wX8_refuse cy aN qN aH aH vN_28)) (wr := [(aH, oX4 vH qH), (qN 2, oX6 vW qW aH0), (qN 1, oX1 vD qD), (qD 0, rI cy 9 vD_now), (qW 1, rI cy 36 vW_who), (qH 14, rI cy 7 vH_kinds), (qW 0, rI cy 7 vW_cells), (qH 8, rI cy 4 vH_sorts), (qH 10, rI cy 36 vH_next), (qW 2, rI cy 7 vW_inFront), (qH 15, rI cy 7 vH_sizes), (qH 11, rI cy 36 vH_width)]) (ws2 := (wX8_worstHeld cy aN qN aH qH qW aH0 qD aH aH0 vN_28 vH vW vD vD_now vW_who vH_kinds vW_cells vH_sorts vH_next vW_inFront vH_sizes vH_width)) (kRunV (As := [.int 2]) (rest := []) ⟨hx, hb, hml, hown, ht0⟩ (kX8_refuse l D cy _ aN qN aH vN (2 : Int32) r28 vN_28 hc28 _ rfl) (cwV 1 ht0 (gV wd504 wd505 wd506 wd57 wd507) rfl rfl rfl (by decide +kernel) ⟨Nat.le_of_ble_eq_true rfl, Nat.le_of_ble_eq_true rfl⟩) hK hN hP hD [0] rfl (by decide) 0 7 rfl rfl rfl hl.1 rfl (Nat.le_of_ble_eq_true rfl) dX8_worstHeld_28 ⟨Nat.zero_le _, Nat.zero_le _⟩) hP hD hS hA [0] [1, 2, 3, 4, 5, 6, 7, 8, 9, 10, 11, 12] rfl rfl (by decide) (by decide) [12, 0, 1, 2, 3, 4, 5, 6, 7, 8, 9, 10, 11] (by decide) rfl rfl (fun H locs hP hD hS => ?_)
    cases hok
    subst hQe; exact W.iret hx hb hr (fun t ht hW => ⟨⟨_, (), rfl, rfl, by rw [ht]; exact hP, va_K.moved hW.alike hK, hD⟩, hS.F ht⟩) hS.2.2 dX8_worstHeld_31
  unfold fX8_worstHeld at hok
  obtain ⟨H, hH⟩ : ∃ H, H = s.heap := ⟨_, rfl⟩
  obtain ⟨locs, hlc⟩ : ∃ x : List Loc, x = [] := ⟨_, rfl⟩
  have hP : va_P D vwCl (wX8_worstHeld cy aN qN aH qH qW aH0 qD aH aH0 vN vH vW vD vD_now vW_who vH_kinds vW_cells vH_sorts vH_next vW_inFront vH_sizes vH_width) H := by rw [hH]; exact hP
  have hS : va_S A s.heap H locs := by rw [hH, hlc]; exact hS
  rw [show W p l e _ s m _ below meth c s.heap [] = W p l e _ s m _ below meth c H locs from by rw [hH, hlc]]
  refine lv_aload_n hx hb dX8_worstHeld_0 rfl (lv_at hl 0 rfl) ?_
  refine va_get (D := D) (ci := 7) (v := .ref aH) (C := RX8) (T := TX8) (N := 9) hx hb ht0 niX8 hown hK hP 0 rfl rfl 5 (by decide) (ht0 _ wd522) (fun _ h9 => h9) rfl dX8_worstHeld_1 ?_
  obtain ⟨r4, hc4, hok⟩ := k_bind hok
  refine kCi (wc := (wX4_stands cy aH qH vH)) (wc2 := (wX4_stands cy aH qH vH)) (wr := [(aN, oX8 vN qN aH), (qN 2, oX6 vW qW aH0), (qN 1, oX1 vD qD), (qD 0, rI cy 9 vD_now), (qW 1, rI cy 36 vW_who), (qH 14, rI cy 7 vH_kinds), (qW 0, rI cy 7 vW_cells), (qH 8, rI cy 4 vH_sorts), (qH 10, rI cy 36 vH_next), (qW 2, rI cy 7 vW_inFront), (qH 15, rI cy 7 vH_sizes), (qH 11, rI cy 36 vH_width)]) (ws2 := (wX8_worstHeld cy aN qN aH qH qW aH0 qD aH aH0 vN vH vW vD vD_now vW_who vH_kinds vW_cells vH_sorts vH_next vW_inFront vH_sizes vH_width)) (kRunV (As := []) (rest := []) ⟨hx, hb, hml, hown, ht0⟩ (kX4_stands l D cy _ aH qH vH r4 hc4 _ rfl) (cwV 0 ht0 (gV wd577 wd462 wd463 wd9 wd464) rfl rfl rfl (by decide +kernel) ⟨Nat.le_of_ble_eq_true rfl, Nat.le_of_ble_eq_true rfl⟩) hK hN hP hD [1] rfl (by decide) 1 3 rfl rfl rfl hl.1 rfl (Nat.le_of_ble_eq_true rfl) dX8_worstHeld_4 ⟨Nat.zero_le _, Nat.zero_le _⟩) hP hD hS hA [1] [0, 2, 3, 4, 5, 6, 7, 8, 9, 10, 11, 12] rfl rfl (by decide) (by decide) [0, 12, 1, 2, 3, 4, 5, 6, 7, 8, 9, 10, 11] (by decide) rfl rfl (fun H locs hP hD hS => ?_)
  refine lv_if_ne (tgt := 16) hx hb dX8_worstHeld_7 (by decide) (fun c7 => ?_) (fun c7 => ?_)
  · have hok := k_neg c7 hok
    refine lv_iload_n hx hb dX8_worstHeld_16 rfl (lv_at hl 1 rfl) ?_
    refine lv_if_lt (tgt := 26) hx hb dX8_worstHeld_17 (by decide) (fun c17 => ?_) (fun c17 => ?_)
    · have hok := k_pos c17 hok
      exact J26  H locs ls hP hD hS (lv_sub hl [0] rfl) hok
    · have hok := k_neg c17 hok
      refine lv_iload_n hx hb dX8_worstHeld_20 rfl (lv_at hl 1 rfl) ?_
      refine lv_bipush (v := 60) hx hb dX8_worstHeld_21 (by decide) ?_
      refine lv_icmp_le (tgt := 32) hx hb dX8_worstHeld_23 (by decide) (fun c23 => ?_) (fun c23 => ?_)
      · have hok := k_pos c23 hok
        refine lv_iconst (v := 0) hx hb dX8_worstHeld_32 (by decide) ?_
        refine lv_istore_n (lv' := [(2, .int 0), (0, .ref aN), (1, .int x1)]) hx hb dX8_worstHeld_33 rfl hl (by decide) rfl (fun ls hl => ?_)
        refine lv_bipush (v := -2) hx hb dX8_worstHeld_34 (by decide) ?_
        refine lv_istore_n (lv' := [(3, .int (-2)), (2, .int 0), (0, .ref aN), (1, .int x1)]) hx hb dX8_worstHeld_36 rfl hl (by decide) rfl (fun ls hl => ?_)
        refine lv_iconst (v := 0) hx hb dX8_worstHeld_37 (by decide) ?_
        refine lv_istore (lv' := [(4, .int 0), (3, .int (-2)), (2, .int 0), (0, .ref aN), (1, .int x1)]) hx hb dX8_worstHeld_38 hl (by decide) rfl (fun ls hl => ?_)
        exact L40 5000 (0 : Int32) (-2 : Int32) (0 : Int32) vW_cells vW_inFront vW_who aH0 vW H locs ls hP hD hS (lv_sub hl [3, 4, 2, 1, 0] rfl) hok
      · have hok := k_neg c23 hok
        exact J26  H locs ls hP hD hS (lv_sub hl [0] rfl) hok
  · have hok := k_pos c7 hok
    refine lv_aload_n hx hb dX8_worstHeld_10 rfl (lv_at hl 0 rfl) ?_
    refine lv_iconst (v := 1) hx hb dX8_worstHeld_11 (by decide) ?_
    obtain ⟨⟨r12, vN_12⟩, hc12, hok⟩ := k_bind hok
    try dsimp only at hok
    refine kCi (wc := (wX8_refuse cy aN qN aH aH vN)) (wc2 := (wX8_refuse cy aN qN aH aH vN_12)) (wr := [(aH, oX4 vH qH), (qN 2, oX6 vW qW aH0), (qN 1, oX1 vD qD), (qD 0, rI cy 9 vD_now), (qW 1, rI cy 36 vW_who), (qH 14, rI cy 7 vH_kinds), (qW 0, rI cy 7 vW_cells), (qH 8, rI cy 4 vH_sorts), (qH 10, rI cy 36 vH_next), (qW 2, rI cy 7 vW_inFront), (qH 15, rI cy 7 vH_sizes), (qH 11, rI cy 36 vH_width)]) (ws2 := (wX8_worstHeld cy aN qN aH qH qW aH0 qD aH aH0 vN_12 vH vW vD vD_now vW_who vH_kinds vW_cells vH_sorts vH_next vW_inFront vH_sizes vH_width)) (kRunV (As := [.int 1]) (rest := []) ⟨hx, hb, hml, hown, ht0⟩ (kX8_refuse l D cy _ aN qN aH vN (1 : Int32) r12 vN_12 hc12 _ rfl) (cwV 1 ht0 (gV wd504 wd505 wd506 wd57 wd507) rfl rfl rfl (by decide +kernel) ⟨Nat.le_of_ble_eq_true rfl, Nat.le_of_ble_eq_true rfl⟩) hK hN hP hD [0] rfl (by decide) 0 7 rfl rfl rfl hl.1 rfl (Nat.le_of_ble_eq_true rfl) dX8_worstHeld_12 ⟨Nat.zero_le _, Nat.zero_le _⟩) hP hD hS hA [0] [1, 2, 3, 4, 5, 6, 7, 8, 9, 10, 11, 12] rfl rfl (by decide) (by decide) [12, 0, 1, 2, 3, 4, 5, 6, 7, 8, 9, 10, 11] (by decide) rfl rfl (fun H locs hP hD hS => ?_)
    cases hok
    subst hQe; exact W.iret hx hb hr (fun t ht hW => ⟨⟨_, (), rfl, rfl, by rw [ht]; exact hP, va_K.moved hW.alike hK, hD⟩, hS.F ht⟩) hS.2.2 dX8_worstHeld_15
def wsX8_holds : List Cond := .code yX8_holds cX8_holds 5 (some .int) :: W0
abbrev wX8_holds (cy : Nat → ClassId) (aN : Nat) (qN : Nat → Nat) (aH : Nat) (qH : Nat → Nat) (qD : Nat → Nat) (qG : Nat → Nat) (qW : Nat → Nat) (aH0 : Nat) (fvN_5 : Nat) (fvW_4 : Nat) (vN : Nat → Int32) (vH : Nat → Int32) (vH_places : Nat → Int32) (vD : Nat → Int32) (vD_now : Nat → Int32) (vH_kinds : Nat → Int32) (vG : Nat → Int32) (vW : Nat → Int32) (vW_who : Nat → Int32) (vW_cells : Nat → Int32) (vH_sorts : Nat → Int32) (vH_next : Nat → Int32) (vW_inFront : Nat → Int32) (vH_sizes : Nat → Int32) (vH_width : Nat → Int32) (vH_doorOne : Nat → Int32) (vH_doorTwo : Nat → Int32) : va_W := [(aN, oX8 vN qN fvN_5), (aH, oX4 vH qH), (qH 9, rI cy 4 vH_places), (qN 1, oX1 vD qD), (qD 0, rI cy 9 vD_now), (qH 14, rI cy 7 vH_kinds), (qN 3, oX3 vG qG), (qG 0, oX6 vW qW fvW_4), (qW 1, rI cy 36 vW_who), (qW 0, rI cy 7 vW_cells), (qH 8, rI cy 4 vH_sorts), (qH 10, rI cy 36 vH_next), (qW 2, rI cy 7 vW_inFront), (qH 15, rI cy 7 vH_sizes), (qH 11, rI cy 36 vH_width), (qH 12, rI cy 5 vH_doorOne), (qH 13, rI cy 5 vH_doorTwo)]
set_option maxHeartbeats 4000000 in
set_option maxRecDepth 100000 in
theorem kX8_holds (l : Launch) (D : va_G) (cy : Nat → ClassId) (sz : Nat) (aN : Nat) (qN : Nat → Nat) (aH : Nat) (qH : Nat → Nat) (qD : Nat → Nat) (qG : Nat → Nat) (qW : Nat → Nat) (aH0 : Nat) (vN : Nat → Int32) (vH : Nat → Int32) (vH_places : Nat → Int32) (vD : Nat → Int32) (vD_now : Nat → Int32) (vH_kinds : Nat → Int32) (vG : Nat → Int32) (vW : Nat → Int32) (vW_who : Nat → Int32) (vW_cells : Nat → Int32) (vH_sorts : Nat → Int32) (vH_next : Nat → Int32) (vW_inFront : Nat → Int32) (vH_sizes : Nat → Int32) (vH_width : Nat → Int32) (vH_doorOne : Nat → Int32) (vH_doorTwo : Nat → Int32) (x1 : Int32) (x2 : Int32) (x3 : Int32) (x4 : Int32) (zr : Int32) (z_vN : Nat → Int32) (z_vW : Nat → Int32) (z_vW_who : Nat → Int32) (z_vW_cells : Nat → Int32) (z_vW_inFront : Nat → Int32) (z_aH0 : Nat) (hok : fX8_holds aH aH0 vN vH vH_places vD vD_now vH_kinds vG vW vW_who vW_cells vH_sorts vH_next vW_inFront vH_sizes vH_width vH_doorOne vH_doorTwo x1 x2 x3 x4 = some (zr, z_vN, z_vW, z_vW_who, z_vW_cells, z_vW_inFront, z_aH0)) (A : Nat → Prop) (hAe : va_A (wX8_holds cy aN qN aH qH qD qG qW aH0 aH aH0 vN vH vH_places vD vD_now vH_kinds vG vW vW_who vW_cells vH_sorts vH_next vW_inFront vH_sizes vH_width vH_doorOne vH_doorTwo) sz = A) : Met l yX8_holds wsX8_holds ({ frames := 6, cells := 0, slots := 0, locals := 151 } : Room) (kPre D cy [.ref aN, .int x1, .int x2, .int x3, .int x4] (wX8_holds cy aN qN aH qH qD qG qW aH0 aH aH0 vN vH vH_places vD vD_now vH_kinds vG vW vW_who vW_cells vH_sorts vH_next vW_inFront vH_sizes vH_width vH_doorOne vH_doorTwo) sz) (kQi D cy zr A (wX8_holds cy aN qN aH qH qD qG qW aH0 aH z_aH0 z_vN vH vH_places vD vD_now vH_kinds vG z_vW z_vW_who z_vW_cells vH_sorts vH_next z_vW_inFront vH_sizes vH_width vH_doorOne vH_doorTwo)) 0 0 A := by
  refine Met.ofW (cc := cX8_holds) (maxL := 5) (ret := (some .int)) (by decide) rfl ?_
  intro p e s m args below meth c s₁ B hml hv
  obtain ⟨rfl, hsz, hP, hK, hD0, hN⟩ := hv
  have hx := B.exec
  have hb := B.bytes
  have hr := B.returns
  have ht0 : ∀ w ∈ W0, w.before _ s = true := fun w h => atoms_spec (ws := wsX8_holds) B.pre w (List.mem_cons_of_mem _ h)
  have hown : s.vm.findClass RX8 = some m.cls := findClass_of_methodNamed B.named
  have hlocks := B.notSynchronized
  subst hsz
  have hD : va_D A (wX8_holds cy aN qN aH qH qD qG qW aH0 aH aH0 vN vH vH_places vD vD_now vH_kinds vG vW vW_who vW_cells vH_sorts vH_next vW_inFront vH_sizes vH_width vH_doorOne vH_doorTwo) := by rw [← hAe]; exact hD0.self
  have hA : ∀ q : Nat, s.heap.size ≤ q → A q := fun q h => by rw [← hAe]; exact Or.inr h
  have hS : va_S A s.heap s.heap [] := va_S.rf
  have hl := lv_entry ([.ref aN, .int x1, .int x2, .int x3, .int x4]) (n := 5) (Nat.le_of_ble_eq_true rfl)
  rw [lg_entry_eq]
  generalize (lg_sl ([.ref aN, .int x1, .int x2, .int x3, .int x4]) ++ List.replicate (5 - (lg_sl ([.ref aN, .int x1, .int x2, .int x3, .int x4])).length) Slot.unset).toArray = ls at hl ⊢
  have hl : lv_has ls 5 [(0, .ref aN), (1, .int x1), (2, .int x2), (3, .int x3), (4, .int x4)] := hl
  generalize hQe : MQ below (kQi D cy zr A (wX8_holds cy aN qN aH qH qD qG qW aH0 aH z_aH0 z_vN vH vH_places vD vD_now vH_kinds vG z_vW z_vW_who z_vW_cells vH_sorts vH_next z_vW_inFront vH_sizes vH_width vH_doorOne vH_doorTwo)) ([.ref aN, .int x1, .int x2, .int x3, .int x4] : List Value).toArray s 0 0 A = Q
  have J41 : ∀ (H : Heap) (locs : List Loc) (ls : Array Slot), va_P D vwCl (wX8_holds cy aN qN aH qH qD qG qW aH0 aH aH0 vN vH vH_places vD vD_now vH_kinds vG vW vW_who vW_cells vH_sorts vH_next vW_inFront vH_sizes vH_width vH_doorOne vH_doorTwo) H → va_D A (wX8_holds cy aN qN aH qH qD qG qW aH0 aH aH0 vN vH vH_places vD vD_now vH_kinds vG vW vW_who vW_cells vH_sorts vH_next vW_inFront vH_sizes vH_width vH_doorOne vH_doorTwo) → va_S A s.heap H locs → lv_has ls 5 [(0, .ref aN)] → fX8_holds_J41 aH0 vN vW vW_who vW_cells vW_inFront = some (zr, z_vN, z_vW, z_vW_who, z_vW_cells, z_vW_inFront, z_aH0) → W p l e ({ frames := 6, cells := 0, slots := 0, locals := 151 } : Room) s m ([.ref aN, .int x1, .int x2, .int x3, .int x4] : List Value).toArray below meth c H locs 0 0 Q (F0 m 41 ls []) := by
    intro  H locs ls hP hD hS hl hok
    unfold fX8_holds_J41 at hok
    refine lv_aload_n hx hb dX8_holds_41 rfl (lv_at hl 0 rfl) ?_
    refine lv_iconst (v := 2) hx hb dX8_holds_42 (by decide) ?_
    obtain ⟨⟨r43, vN_43⟩, hc43, hok⟩ := k_bind hok
    try dsimp only at hok
    refine kCi (wc := (wX8_refuse cy aN qN aH aH vN)) (wc2 := (wX8_refuse cy aN qN aH aH vN_43)) (wr := [(aH, oX4 vH qH), (qH 9, rI cy 4 vH_places), (qN 1, oX1 vD qD), (qD 0, rI cy 9 vD_now), (qH 14, rI cy 7 vH_kinds), (qN 3, oX3 vG qG), (qG 0, oX6 vW qW aH0), (qW 1, rI cy 36 vW_who), (qW 0, rI cy 7 vW_cells), (qH 8, rI cy 4 vH_sorts), (qH 10, rI cy 36 vH_next), (qW 2, rI cy 7 vW_inFront), (qH 15, rI cy 7 vH_sizes), (qH 11, rI cy 36 vH_width), (qH 12, rI cy 5 vH_doorOne), (qH 13, rI cy 5 vH_doorTwo)]) (ws2 := (wX8_holds cy aN qN aH qH qD qG qW aH0 aH aH0 vN_43 vH vH_places vD vD_now vH_kinds vG vW vW_who vW_cells vH_sorts vH_next vW_inFront vH_sizes vH_width vH_doorOne vH_doorTwo)) (kRunV (As := [.int 2]) (rest := []) ⟨hx, hb, hml, hown, ht0⟩ (kX8_refuse l D cy _ aN qN aH vN (2 : Int32) r43 vN_43 hc43 _ rfl) (cwV 1 ht0 (gV wd504 wd505 wd506 wd57 wd507) rfl rfl rfl (by decide +kernel) ⟨Nat.le_of_ble_eq_true rfl, Nat.le_of_ble_eq_true rfl⟩) hK hN hP hD [0] rfl (by decide) 0 7 rfl rfl rfl hl.1 rfl (Nat.le_of_ble_eq_true rfl) dX8_holds_43 ⟨Nat.zero_le _, Nat.zero_le _⟩) hP hD hS hA [0] [1, 2, 3, 4, 5, 6, 7, 8, 9, 10, 11, 12, 13, 14, 15, 16] rfl rfl (by decide) (by decide) [16, 0, 1, 2, 3, 4, 5, 6, 7, 8, 9, 10, 11, 12, 13, 14, 15] (by decide) rfl rfl (fun H locs hP hD hS => ?_)
    cases hok
    subst hQe; exact W.iret hx hb hr (fun t ht hW => ⟨⟨_, (), rfl, rfl, by rw [ht]; exact hP, va_K.moved hW.alike hK, hD⟩, hS.F ht⟩) hS.2.2 dX8_holds_46
  have J23 : ∀ (H : Heap) (locs : List Loc) (ls : Array Slot), va_P D vwCl (wX8_holds cy aN qN aH qH qD qG qW aH0 aH aH0 vN vH vH_places vD vD_now vH_kinds vG vW vW_who vW_cells vH_sorts vH_next vW_inFront vH_sizes vH_width vH_doorOne vH_doorTwo) H → va_D A (wX8_holds cy aN qN aH qH qD qG qW aH0 aH aH0 vN vH vH_places vD vD_now vH_kinds vG vW vW_who vW_cells vH_sorts vH_next vW_inFront vH_sizes vH_width vH_doorOne vH_doorTwo) → va_S A s.heap H locs → lv_has ls 5 [(0, .ref aN)] → fX8_holds_J23 aH0 vN vW vW_who vW_cells vW_inFront = some (zr, z_vN, z_vW, z_vW_who, z_vW_cells, z_vW_inFront, z_aH0) → W p l e ({ frames := 6, cells := 0, slots := 0, locals := 151 } : Room) s m ([.ref aN, .int x1, .int x2, .int x3, .int x4] : List Value).toArray below meth c H locs 0 0 Q (F0 m 23 ls []) := by
    intro  H locs ls hP hD hS hl hok
    unfold fX8_holds_J23 at hok
    refine lv_aload_n hx hb dX8_holds_23 rfl (lv_at hl 0 rfl) ?_
    refine lv_iconst (v := 1) hx hb dX8_holds_24 (by decide) ?_
    obtain ⟨⟨r25, vN_25⟩, hc25, hok⟩ := k_bind hok
    try dsimp only at hok
    refine kCi (wc := (wX8_refuse cy aN qN aH aH vN)) (wc2 := (wX8_refuse cy aN qN aH aH vN_25)) (wr := [(aH, oX4 vH qH), (qH 9, rI cy 4 vH_places), (qN 1, oX1 vD qD), (qD 0, rI cy 9 vD_now), (qH 14, rI cy 7 vH_kinds), (qN 3, oX3 vG qG), (qG 0, oX6 vW qW aH0), (qW 1, rI cy 36 vW_who), (qW 0, rI cy 7 vW_cells), (qH 8, rI cy 4 vH_sorts), (qH 10, rI cy 36 vH_next), (qW 2, rI cy 7 vW_inFront), (qH 15, rI cy 7 vH_sizes), (qH 11, rI cy 36 vH_width), (qH 12, rI cy 5 vH_doorOne), (qH 13, rI cy 5 vH_doorTwo)]) (ws2 := (wX8_holds cy aN qN aH qH qD qG qW aH0 aH aH0 vN_25 vH vH_places vD vD_now vH_kinds vG vW vW_who vW_cells vH_sorts vH_next vW_inFront vH_sizes vH_width vH_doorOne vH_doorTwo)) (kRunV (As := [.int 1]) (rest := []) ⟨hx, hb, hml, hown, ht0⟩ (kX8_refuse l D cy _ aN qN aH vN (1 : Int32) r25 vN_25 hc25 _ rfl) (cwV 1 ht0 (gV wd504 wd505 wd506 wd57 wd507) rfl rfl rfl (by decide +kernel) ⟨Nat.le_of_ble_eq_true rfl, Nat.le_of_ble_eq_true rfl⟩) hK hN hP hD [0] rfl (by decide) 0 7 rfl rfl rfl hl.1 rfl (Nat.le_of_ble_eq_true rfl) dX8_holds_25 ⟨Nat.zero_le _, Nat.zero_le _⟩) hP hD hS hA [0] [1, 2, 3, 4, 5, 6, 7, 8, 9, 10, 11, 12, 13, 14, 15, 16] rfl rfl (by decide) (by decide) [16, 0, 1, 2, 3, 4, 5, 6, 7, 8, 9, 10, 11, 12, 13, 14, 15] (by decide) rfl rfl (fun H locs hP hD hS => ?_)
    cases hok
    subst hQe; exact W.iret hx hb hr (fun t ht hW => ⟨⟨_, (), rfl, rfl, by rw [ht]; exact hP, va_K.moved hW.alike hK, hD⟩, hS.F ht⟩) hS.2.2 dX8_holds_28
  unfold fX8_holds at hok
  obtain ⟨H, hH⟩ : ∃ H, H = s.heap := ⟨_, rfl⟩
  obtain ⟨locs, hlc⟩ : ∃ x : List Loc, x = [] := ⟨_, rfl⟩
  have hP : va_P D vwCl (wX8_holds cy aN qN aH qH qD qG qW aH0 aH aH0 vN vH vH_places vD vD_now vH_kinds vG vW vW_who vW_cells vH_sorts vH_next vW_inFront vH_sizes vH_width vH_doorOne vH_doorTwo) H := by rw [hH]; exact hP
  have hS : va_S A s.heap H locs := by rw [hH, hlc]; exact hS
  rw [show W p l e _ s m _ below meth c s.heap [] = W p l e _ s m _ below meth c H locs from by rw [hH, hlc]]
  refine lv_aload_n hx hb dX8_holds_0 rfl (lv_at hl 0 rfl) ?_
  refine va_get (D := D) (ci := 7) (v := .ref aH) (C := RX8) (T := TX8) (N := 9) hx hb ht0 niX8 hown hK hP 0 rfl rfl 5 (by decide) (ht0 _ wd522) (fun _ h9 => h9) rfl dX8_holds_1 ?_
  refine lv_iload_n hx hb dX8_holds_4 rfl (lv_at hl 1 rfl) ?_
  obtain ⟨r5, hc5, hok⟩ := k_bind hok
  refine kCi (wc := (wX4_hasThing cy aH qH vH)) (wc2 := (wX4_hasThing cy aH qH vH)) (wr := [(aN, oX8 vN qN aH), (qH 9, rI cy 4 vH_places), (qN 1, oX1 vD qD), (qD 0, rI cy 9 vD_now), (qH 14, rI cy 7 vH_kinds), (qN 3, oX3 vG qG), (qG 0, oX6 vW qW aH0), (qW 1, rI cy 36 vW_who), (qW 0, rI cy 7 vW_cells), (qH 8, rI cy 4 vH_sorts), (qH 10, rI cy 36 vH_next), (qW 2, rI cy 7 vW_inFront), (qH 15, rI cy 7 vH_sizes), (qH 11, rI cy 36 vH_width), (qH 12, rI cy 5 vH_doorOne), (qH 13, rI cy 5 vH_doorTwo)]) (ws2 := (wX8_holds cy aN qN aH qH qD qG qW aH0 aH aH0 vN vH vH_places vD vD_now vH_kinds vG vW vW_who vW_cells vH_sorts vH_next vW_inFront vH_sizes vH_width vH_doorOne vH_doorTwo)) (kRunV (As := [.int x1]) (rest := []) ⟨hx, hb, hml, hown, ht0⟩ (kX4_hasThing l D cy _ aH qH vH x1 r5 hc5 _ rfl) (cwV 1 ht0 (gV wd551 wd552 wd553 wd9 wd554) rfl rfl rfl (by decide +kernel) ⟨Nat.le_of_ble_eq_true rfl, Nat.le_of_ble_eq_true rfl⟩) hK hN hP hD [1] rfl (by decide) 1 3 rfl rfl rfl hl.1 rfl (Nat.le_of_ble_eq_true rfl) dX8_holds_5 ⟨Nat.zero_le _, Nat.zero_le _⟩) hP hD hS hA [1] [0, 2, 3, 4, 5, 6, 7, 8, 9, 10, 11, 12, 13, 14, 15, 16] rfl rfl (by decide) (by decide) [0, 16, 1, 2, 3, 4, 5, 6, 7, 8, 9, 10, 11, 12, 13, 14, 15] (by decide) rfl rfl (fun H locs hP hD hS => ?_)
  refine lv_if_eq (tgt := 23) hx hb dX8_holds_8 (by decide) (fun c8 => ?_) (fun c8 => ?_)
  · have hok := k_pos c8 hok
    exact J23  H locs ls hP hD hS (lv_sub hl [0] rfl) hok
  · have hok := k_neg c8 hok
    refine lv_aload_n hx hb dX8_holds_11 rfl (lv_at hl 0 rfl) ?_
    refine va_get (D := D) (ci := 7) (v := .ref aH) (C := RX8) (T := TX8) (N := 9) hx hb ht0 niX8 hown hK hP 0 rfl rfl 5 (by decide) (ht0 _ wd522) (fun _ h9 => h9) rfl dX8_holds_12 ?_
    refine lv_iload_n hx hb dX8_holds_15 rfl (lv_at hl 2 rfl) ?_
    refine lv_iload_n hx hb dX8_holds_16 rfl (lv_at hl 3 rfl) ?_
    obtain ⟨r17, hc17, hok⟩ := k_bind hok
    refine kCi (wc := (wX4_hasPlace cy aH qH vH vH_places)) (wc2 := (wX4_hasPlace cy aH qH vH vH_places)) (wr := [(aN, oX8 vN qN aH), (qN 1, oX1 vD qD), (qD 0, rI cy 9 vD_now), (qH 14, rI cy 7 vH_kinds), (qN 3, oX3 vG qG), (qG 0, oX6 vW qW aH0), (qW 1, rI cy 36 vW_who), (qW 0, rI cy 7 vW_cells), (qH 8, rI cy 4 vH_sorts), (qH 10, rI cy 36 vH_next), (qW 2, rI cy 7 vW_inFront), (qH 15, rI cy 7 vH_sizes), (qH 11, rI cy 36 vH_width), (qH 12, rI cy 5 vH_doorOne), (qH 13, rI cy 5 vH_doorTwo)]) (ws2 := (wX8_holds cy aN qN aH qH qD qG qW aH0 aH aH0 vN vH vH_places vD vD_now vH_kinds vG vW vW_who vW_cells vH_sorts vH_next vW_inFront vH_sizes vH_width vH_doorOne vH_doorTwo)) (kRunV (As := [.int x2, .int x3]) (rest := []) ⟨hx, hb, hml, hown, ht0⟩ (kX4_hasPlace l D cy _ aH qH vH vH_places x2 x3 r17 hc17 _ rfl) (cwV 2 ht0 (gV wd566 wd567 wd568 wd9 wd569) rfl rfl rfl (by decide +kernel) ⟨Nat.le_of_ble_eq_true rfl, Nat.le_of_ble_eq_true rfl⟩) hK hN hP hD [1, 2] rfl (by decide) 1 3 rfl rfl rfl hl.1 rfl (Nat.le_of_ble_eq_true rfl) dX8_holds_17 ⟨Nat.zero_le _, Nat.zero_le _⟩) hP hD hS hA [1, 2] [0, 3, 4, 5, 6, 7, 8, 9, 10, 11, 12, 13, 14, 15, 16] rfl rfl (by decide) (by decide) [0, 15, 16, 1, 2, 3, 4, 5, 6, 7, 8, 9, 10, 11, 12, 13, 14] (by decide) rfl rfl (fun H locs hP hD hS => ?_)
    refine lv_if_ne (tgt := 29) hx hb dX8_holds_20 (by decide) (fun c20 => ?_) (fun c20 => ?_)
    · have hok := k_neg c20 hok
      refine lv_iload hx hb dX8_holds_29 (lv_at hl 4 rfl) ?_
      refine lv_if_lt (tgt := 41) hx hb dX8_holds_31 (by decide) (fun c31 => ?_) (fun c31 => ?_)
      · have hok := k_pos c31 hok
        exact J41  H locs ls hP hD hS (lv_sub hl [0] rfl) hok
      · have hok := k_neg c31 hok
        refine lv_iload hx hb dX8_holds_34 (lv_at hl 4 rfl) ?_
        refine lv_bipush (v := 30) hx hb dX8_holds_36 (by decide) ?_
        refine lv_icmp_le (tgt := 47) hx hb dX8_holds_38 (by decide) (fun c38 => ?_) (fun c38 => ?_)
        · have hok := k_pos c38 hok
          refine lv_aload_n hx hb dX8_holds_47 rfl (lv_at hl 0 rfl) ?_
          refine va_get (D := D) (ci := 7) (v := .ref (qN 1)) (C := RX8) (T := TX8) (N := 9) hx hb ht0 niX8 hown hK hP 0 rfl rfl 1 (by decide) (ht0 _ wd527) (fun _ h9 => h9) rfl dX8_holds_48 ?_
          refine lv_iload_n hx hb dX8_holds_51 rfl (lv_at hl 1 rfl) ?_
          obtain ⟨r52, hc52, hok⟩ := k_bind hok
          refine kCi (wc := (wX1_cellOf cy (qN 1) qD vD vD_now)) (wc2 := (wX1_cellOf cy (qN 1) qD vD vD_now)) (wr := [(aN, oX8 vN qN aH), (aH, oX4 vH qH), (qH 9, rI cy 4 vH_places), (qH 14, rI cy 7 vH_kinds), (qN 3, oX3 vG qG), (qG 0, oX6 vW qW aH0), (qW 1, rI cy 36 vW_who), (qW 0, rI cy 7 vW_cells), (qH 8, rI cy 4 vH_sorts), (qH 10, rI cy 36 vH_next), (qW 2, rI cy 7 vW_inFront), (qH 15, rI cy 7 vH_sizes), (qH 11, rI cy 36 vH_width), (qH 12, rI cy 5 vH_doorOne), (qH 13, rI cy 5 vH_doorTwo)]) (ws2 := (wX8_holds cy aN qN aH qH qD qG qW aH0 aH aH0 vN vH vH_places vD vD_now vH_kinds vG vW vW_who vW_cells vH_sorts vH_next vW_inFront vH_sizes vH_width vH_doorOne vH_doorTwo)) (kRunV (As := [.int x1]) (rest := []) ⟨hx, hb, hml, hown, ht0⟩ (kX1_cellOf l D cy _ (qN 1) qD vD vD_now x1 r52 hc52 _ rfl) (cwV 1 ht0 (gV wd556 wd82 wd83 wd74 wd84) rfl rfl rfl (by decide +kernel) ⟨Nat.le_of_ble_eq_true rfl, Nat.le_of_ble_eq_true rfl⟩) hK hN hP hD [3, 4] rfl (by decide) 3 1 rfl rfl rfl hl.1 rfl (Nat.le_of_ble_eq_true rfl) dX8_holds_52 ⟨Nat.zero_le _, Nat.zero_le _⟩) hP hD hS hA [3, 4] [0, 1, 2, 5, 6, 7, 8, 9, 10, 11, 12, 13, 14, 15, 16] rfl rfl (by decide) (by decide) [0, 1, 2, 15, 16, 3, 4, 5, 6, 7, 8, 9, 10, 11, 12, 13, 14] (by decide) rfl rfl (fun H locs hP hD hS => ?_)
          obtain ⟨r55, hc55, hok⟩ := k_bind hok
          refine kCi (wc := (wX8_ringOfCell cy )) (wc2 := (wX8_ringOfCell cy )) (wr := [(aN, oX8 vN qN aH), (aH, oX4 vH qH), (qH 9, rI cy 4 vH_places), (qN 1, oX1 vD qD), (qD 0, rI cy 9 vD_now), (qH 14, rI cy 7 vH_kinds), (qN 3, oX3 vG qG), (qG 0, oX6 vW qW aH0), (qW 1, rI cy 36 vW_who), (qW 0, rI cy 7 vW_cells), (qH 8, rI cy 4 vH_sorts), (qH 10, rI cy 36 vH_next), (qW 2, rI cy 7 vW_inFront), (qH 15, rI cy 7 vH_sizes), (qH 11, rI cy 36 vH_width), (qH 12, rI cy 5 vH_doorOne), (qH 13, rI cy 5 vH_doorTwo)]) (ws2 := (wX8_holds cy aN qN aH qH qD qG qW aH0 aH aH0 vN vH vH_places vD vD_now vH_kinds vG vW vW_who vW_cells vH_sorts vH_next vW_inFront vH_sizes vH_width vH_doorOne vH_doorTwo)) (kRunS (As := [.int r52]) (rest := []) ⟨hx, hb, hml, hown, ht0⟩ (kX8_ringOfCell l D cy _ r52 r55 hc55 _ rfl) (va_cwS 1 ht0 (gS wd557 wd58 wd57 wd56) rfl rfl rfl (by decide +kernel) ⟨Nat.le_of_ble_eq_true rfl, Nat.le_of_ble_eq_true rfl⟩) hK hN hP hD [] rfl (by decide) rfl hl.1 rfl (Nat.le_of_ble_eq_true rfl) dX8_holds_55 ⟨Nat.zero_le _, Nat.zero_le _⟩) hP hD hS hA [] [0, 1, 2, 3, 4, 5, 6, 7, 8, 9, 10, 11, 12, 13, 14, 15, 16] rfl rfl (by decide) (by decide) [0, 1, 2, 3, 4, 5, 6, 7, 8, 9, 10, 11, 12, 13, 14, 15, 16] (by decide) rfl rfl (fun H locs hP hD hS => ?_)
          refine lv_iload_n hx hb dX8_holds_58 rfl (lv_at hl 2 rfl) ?_
          refine lv_icmp_eq (tgt := 69) hx hb dX8_holds_59 (by decide) (fun c59 => ?_) (fun c59 => ?_)
          · have hok := k_pos c59 hok
            refine lv_aload_n hx hb dX8_holds_69 rfl (lv_at hl 0 rfl) ?_
            refine lv_aload_n hx hb dX8_holds_70 rfl (lv_at hl 0 rfl) ?_
            refine va_get (D := D) (ci := 7) (v := .ref (qN 3)) (C := RX8) (T := TX8) (N := 9) hx hb ht0 niX8 hown hK hP 0 rfl rfl 3 (by decide) (ht0 _ wd616) (fun _ h9 => h9) rfl dX8_holds_71 ?_
            refine lv_aload_n hx hb dX8_holds_74 rfl (lv_at hl 0 rfl) ?_
            refine va_get (D := D) (ci := 7) (v := .ref aH) (C := RX8) (T := TX8) (N := 9) hx hb ht0 niX8 hown hK hP 0 rfl rfl 5 (by decide) (ht0 _ wd522) (fun _ h9 => h9) rfl dX8_holds_75 ?_
            refine lv_aload_n hx hb dX8_holds_78 rfl (lv_at hl 0 rfl) ?_
            refine va_get (D := D) (ci := 7) (v := .ref (qN 1)) (C := RX8) (T := TX8) (N := 9) hx hb ht0 niX8 hown hK hP 0 rfl rfl 1 (by decide) (ht0 _ wd527) (fun _ h9 => h9) rfl dX8_holds_79 ?_
            refine lv_iload_n hx hb dX8_holds_82 rfl (lv_at hl 1 rfl) ?_
            refine lv_iload_n hx hb dX8_holds_83 rfl (lv_at hl 2 rfl) ?_
            refine lv_iload_n hx hb dX8_holds_84 rfl (lv_at hl 3 rfl) ?_
            obtain ⟨r85, hc85, hok⟩ := k_bind hok
            refine kCi (wc := (wX8_cellAt cy )) (wc2 := (wX8_cellAt cy )) (wr := [(aN, oX8 vN qN aH), (aH, oX4 vH qH), (qH 9, rI cy 4 vH_places), (qN 1, oX1 vD qD), (qD 0, rI cy 9 vD_now), (qH 14, rI cy 7 vH_kinds), (qN 3, oX3 vG qG), (qG 0, oX6 vW qW aH0), (qW 1, rI cy 36 vW_who), (qW 0, rI cy 7 vW_cells), (qH 8, rI cy 4 vH_sorts), (qH 10, rI cy 36 vH_next), (qW 2, rI cy 7 vW_inFront), (qH 15, rI cy 7 vH_sizes), (qH 11, rI cy 36 vH_width), (qH 12, rI cy 5 vH_doorOne), (qH 13, rI cy 5 vH_doorTwo)]) (ws2 := (wX8_holds cy aN qN aH qH qD qG qW aH0 aH aH0 vN vH vH_places vD vD_now vH_kinds vG vW vW_who vW_cells vH_sorts vH_next vW_inFront vH_sizes vH_width vH_doorOne vH_doorTwo)) (kRunS (As := [.int x2, .int x3]) (rest := [.int x1, .ref (qN 1), .ref aH, .ref (qN 3), .ref aN]) ⟨hx, hb, hml, hown, ht0⟩ (kX8_cellAt l D cy _ x2 x3 r85 hc85 _ rfl) (va_cwS 2 ht0 (gS wd570 wd261 wd57 wd260) rfl rfl rfl (by decide +kernel) ⟨Nat.le_of_ble_eq_true rfl, Nat.le_of_ble_eq_true rfl⟩) hK hN hP hD [] rfl (by decide) rfl hl.1 rfl (Nat.le_of_ble_eq_true rfl) dX8_holds_85 ⟨Nat.zero_le _, Nat.zero_le _⟩) hP hD hS hA [] [0, 1, 2, 3, 4, 5, 6, 7, 8, 9, 10, 11, 12, 13, 14, 15, 16] rfl rfl (by decide) (by decide) [0, 1, 2, 3, 4, 5, 6, 7, 8, 9, 10, 11, 12, 13, 14, 15, 16] (by decide) rfl rfl (fun H locs hP hD hS => ?_)
            refine lv_iload hx hb dX8_holds_88 (lv_at hl 4 rfl) ?_
            obtain ⟨⟨r90, vW_90, vW_who_90, vW_cells_90, vW_inFront_90, aH0_90⟩, hc90, hok⟩ := k_bind hok
            try dsimp only at hok
            refine kCi (wc := (wX3_fewestForPlace cy (qN 3) aH (qN 1) qD qH qG qW aH0 aH0 vD vD_now vH vH_kinds vG vW vW_who vW_cells vH_sorts vH_next vW_inFront vH_sizes vH_width vH_doorOne vH_doorTwo)) (wc2 := (wX3_fewestForPlace cy (qN 3) aH (qN 1) qD qH qG qW aH0 aH0_90 vD vD_now vH vH_kinds vG vW_90 vW_who_90 vW_cells_90 vH_sorts vH_next vW_inFront_90 vH_sizes vH_width vH_doorOne vH_doorTwo)) (wr := [(aN, oX8 vN qN aH), (qH 9, rI cy 4 vH_places)]) (ws2 := (wX8_holds cy aN qN aH qH qD qG qW aH0 aH aH0_90 vN vH vH_places vD vD_now vH_kinds vG vW_90 vW_who_90 vW_cells_90 vH_sorts vH_next vW_inFront_90 vH_sizes vH_width vH_doorOne vH_doorTwo)) (kRunV (As := [.ref aH, .ref (qN 1), .int x1, .int r85, .int x4]) (rest := [.ref aN]) ⟨hx, hb, hml, hown, ht0⟩ (kX3_fewestForPlace l D cy _ (qN 3) aH (qN 1) qD qH qG qW aH0 vD vD_now vH vH_kinds vG vW vW_who vW_cells vH_sorts vH_next vW_inFront vH_sizes vH_width vH_doorOne vH_doorTwo x1 r85 x4 r90 vW_90 vW_who_90 vW_cells_90 vW_inFront_90 aH0_90 hc90 _ rfl) (cwV 5 ht0 (gV wd617 wd618 wd619 wd178 wd620) rfl rfl rfl (by decide +kernel) ⟨Nat.le_of_ble_eq_true rfl, Nat.le_of_ble_eq_true rfl⟩) hK hN hP hD [3, 4, 1, 5, 6, 7, 8, 9, 10, 11, 12, 13, 14, 15, 16] rfl (by decide) 6 2 rfl rfl rfl hl.1 rfl (Nat.le_of_ble_eq_true rfl) dX8_holds_90 ⟨Nat.zero_le _, Nat.zero_le _⟩) hP hD hS hA [3, 4, 1, 5, 6, 7, 8, 9, 10, 11, 12, 13, 14, 15, 16] [0, 2] rfl rfl (by decide) (by decide) [0, 4, 1, 2, 3, 5, 6, 7, 8, 9, 10, 11, 12, 13, 14, 15, 16] (by decide) rfl rfl (fun H locs hP hD hS => ?_)
            obtain ⟨⟨r93, vN_93⟩, hc93, hok⟩ := k_bind hok
            try dsimp only at hok
            refine kCi (wc := (wX8_answer cy aN qN aH aH vN)) (wc2 := (wX8_answer cy aN qN aH aH vN_93)) (wr := [(aH, oX4 vH qH), (qH 9, rI cy 4 vH_places), (qN 1, oX1 vD qD), (qD 0, rI cy 9 vD_now), (qH 14, rI cy 7 vH_kinds), (qN 3, oX3 vG qG), (qG 0, oX6 vW_90 qW aH0_90), (qW 1, rI cy 36 vW_who_90), (qW 0, rI cy 7 vW_cells_90), (qH 8, rI cy 4 vH_sorts), (qH 10, rI cy 36 vH_next), (qW 2, rI cy 7 vW_inFront_90), (qH 15, rI cy 7 vH_sizes), (qH 11, rI cy 36 vH_width), (qH 12, rI cy 5 vH_doorOne), (qH 13, rI cy 5 vH_doorTwo)]) (ws2 := (wX8_holds cy aN qN aH qH qD qG qW aH0 aH aH0_90 vN_93 vH vH_places vD vD_now vH_kinds vG vW_90 vW_who_90 vW_cells_90 vH_sorts vH_next vW_inFront_90 vH_sizes vH_width vH_doorOne vH_doorTwo)) (kRunV (As := [.int r90]) (rest := []) ⟨hx, hb, hml, hown, ht0⟩ (kX8_answer l D cy _ aN qN aH vN r90 r93 vN_93 hc93 _ rfl) (cwV 1 ht0 (gV wd538 wd539 wd540 wd57 wd541) rfl rfl rfl (by decide +kernel) ⟨Nat.le_of_ble_eq_true rfl, Nat.le_of_ble_eq_true rfl⟩) hK hN hP hD [0] rfl (by decide) 0 7 rfl rfl rfl hl.1 rfl (Nat.le_of_ble_eq_true rfl) dX8_holds_93 ⟨Nat.zero_le _, Nat.zero_le _⟩) hP hD hS hA [0] [1, 2, 3, 4, 5, 6, 7, 8, 9, 10, 11, 12, 13, 14, 15, 16] rfl rfl (by decide) (by decide) [16, 0, 1, 2, 3, 4, 5, 6, 7, 8, 9, 10, 11, 12, 13, 14, 15] (by decide) rfl rfl (fun H locs hP hD hS => ?_)
            cases hok
            subst hQe; exact W.iret hx hb hr (fun t ht hW => ⟨⟨_, (), rfl, rfl, by rw [ht]; exact hP, va_K.moved hW.alike hK, hD⟩, hS.F ht⟩) hS.2.2 dX8_holds_96
          · have hok := k_neg c59 hok
            refine lv_aload_n hx hb dX8_holds_62 rfl (lv_at hl 0 rfl) ?_
            refine lv_bipush (v := -2) hx hb dX8_holds_63 (by decide) ?_
            obtain ⟨⟨r65, vN_65⟩, hc65, hok⟩ := k_bind hok
            try dsimp only at hok
            refine kCi (wc := (wX8_answer cy aN qN aH aH vN)) (wc2 := (wX8_answer cy aN qN aH aH vN_65)) (wr := [(aH, oX4 vH qH), (qH 9, rI cy 4 vH_places), (qN 1, oX1 vD qD), (qD 0, rI cy 9 vD_now), (qH 14, rI cy 7 vH_kinds), (qN 3, oX3 vG qG), (qG 0, oX6 vW qW aH0), (qW 1, rI cy 36 vW_who), (qW 0, rI cy 7 vW_cells), (qH 8, rI cy 4 vH_sorts), (qH 10, rI cy 36 vH_next), (qW 2, rI cy 7 vW_inFront), (qH 15, rI cy 7 vH_sizes), (qH 11, rI cy 36 vH_width), (qH 12, rI cy 5 vH_doorOne), (qH 13, rI cy 5 vH_doorTwo)]) (ws2 := (wX8_holds cy aN qN aH qH qD qG qW aH0 aH aH0 vN_65 vH vH_places vD vD_now vH_kinds vG vW vW_who vW_cells vH_sorts vH_next vW_inFront vH_sizes vH_width vH_doorOne vH_doorTwo)) (kRunV (As := [.int (-2)]) (rest := []) ⟨hx, hb, hml, hown, ht0⟩ (kX8_answer l D cy _ aN qN aH vN (-2 : Int32) r65 vN_65 hc65 _ rfl) (cwV 1 ht0 (gV wd538 wd539 wd540 wd57 wd541) rfl rfl rfl (by decide +kernel) ⟨Nat.le_of_ble_eq_true rfl, Nat.le_of_ble_eq_true rfl⟩) hK hN hP hD [0] rfl (by decide) 0 7 rfl rfl rfl hl.1 rfl (Nat.le_of_ble_eq_true rfl) dX8_holds_65 ⟨Nat.zero_le _, Nat.zero_le _⟩) hP hD hS hA [0] [1, 2, 3, 4, 5, 6, 7, 8, 9, 10, 11, 12, 13, 14, 15, 16] rfl rfl (by decide) (by decide) [16, 0, 1, 2, 3, 4, 5, 6, 7, 8, 9, 10, 11, 12, 13, 14, 15] (by decide) rfl rfl (fun H locs hP hD hS => ?_)
            cases hok
            subst hQe; exact W.iret hx hb hr (fun t ht hW => ⟨⟨_, (), rfl, rfl, by rw [ht]; exact hP, va_K.moved hW.alike hK, hD⟩, hS.F ht⟩) hS.2.2 dX8_holds_68
        · have hok := k_neg c38 hok
          exact J41  H locs ls hP hD hS (lv_sub hl [0] rfl) hok
    · have hok := k_pos c20 hok
      exact J23  H locs ls hP hD hS (lv_sub hl [0] rfl) hok
def wsX8_putFor : List Cond := .code yX8_putFor cX8_putFor 8 (some .int) :: W0
abbrev wX8_putFor (cy : Nat → ClassId) (aN : Nat) (qN : Nat → Nat) (aH : Nat) (qH : Nat → Nat) (qD : Nat → Nat) (qW : Nat → Nat) (aH0 : Nat) (fvN_5 : Nat) (fvW_4 : Nat) (vN : Nat → Int32) (vH : Nat → Int32) (vD : Nat → Int32) (vD_now : Nat → Int32) (vH_places : Nat → Int32) (vW : Nat → Int32) (vW_who : Nat → Int32) (vH_kinds : Nat → Int32) (vW_cells : Nat → Int32) (vH_sorts : Nat → Int32) (vH_next : Nat → Int32) (vW_inFront : Nat → Int32) (vH_sizes : Nat → Int32) (vH_width : Nat → Int32) : va_W := [(aN, oX8 vN qN fvN_5), (aH, oX4 vH qH), (qN 1, oX1 vD qD), (qD 0, rI cy 9 vD_now), (qH 9, rI cy 4 vH_places), (qN 2, oX6 vW qW fvW_4), (qW 1, rI cy 36 vW_who), (qH 14, rI cy 7 vH_kinds), (qW 0, rI cy 7 vW_cells), (qH 8, rI cy 4 vH_sorts), (qH 10, rI cy 36 vH_next), (qW 2, rI cy 7 vW_inFront), (qH 15, rI cy 7 vH_sizes), (qH 11, rI cy 36 vH_width)]
set_option maxHeartbeats 4000000 in
set_option maxRecDepth 100000 in
theorem kX8_putFor (l : Launch) (D : va_G) (cy : Nat → ClassId) (sz : Nat) (aN : Nat) (qN : Nat → Nat) (aH : Nat) (qH : Nat → Nat) (qD : Nat → Nat) (qW : Nat → Nat) (aH0 : Nat) (vN : Nat → Int32) (vH : Nat → Int32) (vD : Nat → Int32) (vD_now : Nat → Int32) (vH_places : Nat → Int32) (vW : Nat → Int32) (vW_who : Nat → Int32) (vH_kinds : Nat → Int32) (vW_cells : Nat → Int32) (vH_sorts : Nat → Int32) (vH_next : Nat → Int32) (vW_inFront : Nat → Int32) (vH_sizes : Nat → Int32) (vH_width : Nat → Int32) (x1 : Int32) (x2 : Int32) (x3 : Int32) (zr : Int32) (z_vN : Nat → Int32) (z_vW : Nat → Int32) (z_vW_who : Nat → Int32) (z_vW_cells : Nat → Int32) (z_vW_inFront : Nat → Int32) (z_aH0 : Nat) (hok : fX8_putFor aH aH0 vN vH vD vD_now vH_places vW vW_who vH_kinds vW_cells vH_sorts vH_next vW_inFront vH_sizes vH_width x1 x2 x3 = some (zr, z_vN, z_vW, z_vW_who, z_vW_cells, z_vW_inFront, z_aH0)) (A : Nat → Prop) (hAe : va_A (wX8_putFor cy aN qN aH qH qD qW aH0 aH aH0 vN vH vD vD_now vH_places vW vW_who vH_kinds vW_cells vH_sorts vH_next vW_inFront vH_sizes vH_width) sz = A) : Met l yX8_putFor wsX8_putFor ({ frames := 4, cells := 0, slots := 0, locals := 96 } : Room) (kPre D cy [.ref aN, .int x1, .int x2, .int x3] (wX8_putFor cy aN qN aH qH qD qW aH0 aH aH0 vN vH vD vD_now vH_places vW vW_who vH_kinds vW_cells vH_sorts vH_next vW_inFront vH_sizes vH_width) sz) (kQi D cy zr A (wX8_putFor cy aN qN aH qH qD qW aH0 aH z_aH0 z_vN vH vD vD_now vH_places z_vW z_vW_who vH_kinds z_vW_cells vH_sorts vH_next z_vW_inFront vH_sizes vH_width)) 0 0 A := by
  refine Met.ofW (cc := cX8_putFor) (maxL := 8) (ret := (some .int)) (by decide) rfl ?_
  intro p e s m args below meth c s₁ B hml hv
  obtain ⟨rfl, hsz, hP, hK, hD0, hN⟩ := hv
  have hx := B.exec
  have hb := B.bytes
  have hr := B.returns
  have ht0 : ∀ w ∈ W0, w.before _ s = true := fun w h => atoms_spec (ws := wsX8_putFor) B.pre w (List.mem_cons_of_mem _ h)
  have hown : s.vm.findClass RX8 = some m.cls := findClass_of_methodNamed B.named
  have hlocks := B.notSynchronized
  subst hsz
  have hD : va_D A (wX8_putFor cy aN qN aH qH qD qW aH0 aH aH0 vN vH vD vD_now vH_places vW vW_who vH_kinds vW_cells vH_sorts vH_next vW_inFront vH_sizes vH_width) := by rw [← hAe]; exact hD0.self
  have hA : ∀ q : Nat, s.heap.size ≤ q → A q := fun q h => by rw [← hAe]; exact Or.inr h
  have hS : va_S A s.heap s.heap [] := va_S.rf
  have hl := lv_entry ([.ref aN, .int x1, .int x2, .int x3]) (n := 8) (Nat.le_of_ble_eq_true rfl)
  rw [lg_entry_eq]
  generalize (lg_sl ([.ref aN, .int x1, .int x2, .int x3]) ++ List.replicate (8 - (lg_sl ([.ref aN, .int x1, .int x2, .int x3])).length) Slot.unset).toArray = ls at hl ⊢
  have hl : lv_has ls 8 [(0, .ref aN), (1, .int x1), (2, .int x2), (3, .int x3)] := hl
  generalize hQe : MQ below (kQi D cy zr A (wX8_putFor cy aN qN aH qH qD qW aH0 aH z_aH0 z_vN vH vD vD_now vH_places z_vW z_vW_who vH_kinds z_vW_cells vH_sorts vH_next z_vW_inFront vH_sizes vH_width)) ([.ref aN, .int x1, .int x2, .int x3] : List Value).toArray s 0 0 A = Q
  have L68 : ∀ (fuel : Nat) (y4_68 : Int32) (y5_68 : Int32) (vW_cells_68 : Nat → Int32) (vW_inFront_68 : Nat → Int32) (vW_who_68 : Nat → Int32) (vW_4_68 : Nat) (vW_68 : Nat → Int32), ∀ (H : Heap) (locs : List Loc) (ls : Array Slot), va_P D vwCl (wX8_putFor cy aN qN aH qH qD qW aH0 aH vW_4_68 vN vH vD vD_now vH_places vW_68 vW_who_68 vH_kinds vW_cells_68 vH_sorts vH_next vW_inFront_68 vH_sizes vH_width) H → va_D A (wX8_putFor cy aN qN aH qH qD qW aH0 aH vW_4_68 vN vH vD vD_now vH_places vW_68 vW_who_68 vH_kinds vW_cells_68 vH_sorts vH_next vW_inFront_68 vH_sizes vH_width) → va_S A s.heap H locs → lv_has ls 8 [(0, .ref aN), (1, .int x1), (2, .int x2), (3, .int x3), (4, .int y4_68), (5, .int y5_68)] → lp (fX8_putFor_B68 aH vN vH vD vD_now vH_places vH_kinds vH_sorts vH_next vH_sizes vH_width x1 x2 x3) fuel (y4_68, y5_68, vW_cells_68, vW_inFront_68, vW_who_68, vW_4_68, vW_68) = some (zr, z_vN, z_vW, z_vW_who, z_vW_cells, z_vW_inFront, z_aH0) → W p l e ({ frames := 4, cells := 0, slots := 0, locals := 96 } : Room) s m ([.ref aN, .int x1, .int x2, .int x3] : List Value).toArray below meth c H locs 0 0 Q (F0 m 68 ls []) := by
    intro fuel
    induction fuel with
    | zero => intro y4_68 y5_68 vW_cells_68 vW_inFront_68 vW_who_68 vW_4_68 vW_68 H locs ls hP hD hS hl hok; exact (lp_0 hok).elim
    | succ fuel ih68 =>
      intro y4_68 y5_68 vW_cells_68 vW_inFront_68 vW_who_68 vW_4_68 vW_68 H locs ls hP hD hS hl hok
      obtain ⟨y68, hok, hL68, hR68⟩ := lp_step hok
      have J179 : ∀ (vW_cells_179 : Nat → Int32) (vW_inFront_179 : Nat → Int32) (vW_who_179 : Nat → Int32) (vW_4_179 : Nat) (vW_179 : Nat → Int32), ∀ (H : Heap) (locs : List Loc) (ls : Array Slot), va_P D vwCl (wX8_putFor cy aN qN aH qH qD qW aH0 aH vW_4_179 vN vH vD vD_now vH_places vW_179 vW_who_179 vH_kinds vW_cells_179 vH_sorts vH_next vW_inFront_179 vH_sizes vH_width) H → va_D A (wX8_putFor cy aN qN aH qH qD qW aH0 aH vW_4_179 vN vH vD vD_now vH_places vW_179 vW_who_179 vH_kinds vW_cells_179 vH_sorts vH_next vW_inFront_179 vH_sizes vH_width) → va_S A s.heap H locs → lv_has ls 8 [(0, .ref aN), (1, .int x1), (2, .int x2), (3, .int x3), (4, .int y4_68), (5, .int y5_68)] → fX8_putFor_J179 y4_68 y5_68 vW_cells_179 vW_inFront_179 vW_who_179 vW_4_179 vW_179 = some y68 → W p l e ({ frames := 4, cells := 0, slots := 0, locals := 96 } : Room) s m ([.ref aN, .int x1, .int x2, .int x3] : List Value).toArray below meth c H locs 0 0 Q (F0 m 179 ls []) := by
        intro vW_cells_179 vW_inFront_179 vW_who_179 vW_4_179 vW_179 H locs ls hP hD hS hl hok
        unfold fX8_putFor_J179 at hok
        refine lv_iinc (v := (y5_68 + 1)) (lv' := [(5, .int (y5_68 + 1)), (0, .ref aN), (1, .int x1), (2, .int x2), (3, .int x3), (4, .int y4_68)]) hx hb dX8_putFor_179 hl (k := 5) rfl (by first | rfl | decide) (by decide) rfl (fun ls hl => ?_)
        refine lv_goto (tgt := 68) hx hb dX8_putFor_182 (by decide) ?_
        exact ih68 y4_68 (y5_68 + 1) vW_cells_179 vW_inFront_179 vW_who_179 vW_4_179 vW_179 H locs ls hP hD hS (lv_sub hl [1, 2, 3, 4, 5, 0] rfl) (hR68 _ (Option.some.inj hok).symm)
      have J120 : ∀ (y6_120 : Int32), ∀ (H : Heap) (locs : List Loc) (ls : Array Slot), va_P D vwCl (wX8_putFor cy aN qN aH qH qD qW aH0 aH vW_4_68 vN vH vD vD_now vH_places vW_68 vW_who_68 vH_kinds vW_cells_68 vH_sorts vH_next vW_inFront_68 vH_sizes vH_width) H → va_D A (wX8_putFor cy aN qN aH qH qD qW aH0 aH vW_4_68 vN vH vD vD_now vH_places vW_68 vW_who_68 vH_kinds vW_cells_68 vH_sorts vH_next vW_inFront_68 vH_sizes vH_width) → va_S A s.heap H locs → lv_has ls 8 [(0, .ref aN), (1, .int x1), (2, .int x2), (3, .int x3), (4, .int y4_68), (5, .int y5_68), (6, .int y6_120)] → fX8_putFor_J120 aH vN vH vD vD_now vH_kinds vH_sorts vH_next vH_sizes vH_width x1 x2 x3 y4_68 y5_68 vW_cells_68 vW_inFront_68 vW_who_68 vW_68 y6_120 = some y68 → W p l e ({ frames := 4, cells := 0, slots := 0, locals := 96 } : Room) s m ([.ref aN, .int x1, .int x2, .int x3] : List Value).toArray below meth c H locs 0 0 Q (F0 m 120 ls []) := by
        intro y6_120 H locs ls hP hD hS hl hok
        unfold fX8_putFor_J120 at hok
        refine lv_aload_n hx hb dX8_putFor_120 rfl (lv_at hl 0 rfl) ?_
        refine va_get (D := D) (ci := 7) (v := .ref (qN 2)) (C := RX8) (T := TX8) (N := 9) hx hb ht0 niX8 hown hK hP 0 rfl rfl 2 (by decide) (ht0 _ wd578) (fun _ h9 => h9) rfl dX8_putFor_121 ?_
        refine lv_aload_n hx hb dX8_putFor_124 rfl (lv_at hl 0 rfl) ?_
        refine va_get (D := D) (ci := 7) (v := .ref aH) (C := RX8) (T := TX8) (N := 9) hx hb ht0 niX8 hown hK hP 0 rfl rfl 5 (by decide) (ht0 _ wd522) (fun _ h9 => h9) rfl dX8_putFor_125 ?_
        refine lv_aload_n hx hb dX8_putFor_128 rfl (lv_at hl 0 rfl) ?_
        refine va_get (D := D) (ci := 7) (v := .ref (qN 1)) (C := RX8) (T := TX8) (N := 9) hx hb ht0 niX8 hown hK hP 0 rfl rfl 1 (by decide) (ht0 _ wd527) (fun _ h9 => h9) rfl dX8_putFor_129 ?_
        refine lv_iconst (v := 0) hx hb dX8_putFor_132 (by decide) ?_
        obtain ⟨⟨vW_133, vW_who_133, vW_cells_133⟩, hc133, hok⟩ := k_bind hok
        try dsimp only at hok
        refine kCv (wc := (wX6_start cy (qN 2) aH (qN 1) qW vW_4_68 qD qH vW_4_68 vW_68 vD vD_now vW_who_68 vH vH_kinds vW_cells_68 vH_sorts)) (wc2 := (wX6_start cy (qN 2) aH (qN 1) qW vW_4_68 qD qH aH vW_133 vD vD_now vW_who_133 vH vH_kinds vW_cells_133 vH_sorts)) (wr := [(aN, oX8 vN qN aH), (qH 9, rI cy 4 vH_places), (qH 10, rI cy 36 vH_next), (qW 2, rI cy 7 vW_inFront_68), (qH 15, rI cy 7 vH_sizes), (qH 11, rI cy 36 vH_width)]) (ws2 := (wX8_putFor cy aN qN aH qH qD qW aH0 aH aH vN vH vD vD_now vH_places vW_133 vW_who_133 vH_kinds vW_cells_133 vH_sorts vH_next vW_inFront_68 vH_sizes vH_width)) (kRunV (As := [.ref aH, .ref (qN 1), .int 0]) (rest := []) ⟨hx, hb, hml, hown, ht0⟩ (kX6_start l D cy _ (qN 2) aH (qN 1) qW vW_4_68 qD qH vW_68 vD vD_now vW_who_68 vH vH_kinds vW_cells_68 vH_sorts (0 : Int32) vW_133 vW_who_133 vW_cells_133 hc133 _ rfl) (cwV 3 ht0 (gV wd579 wd181 wd182 wd114 wd183) rfl rfl rfl (by decide +kernel) ⟨Nat.le_of_ble_eq_true rfl, Nat.le_of_ble_eq_true rfl⟩) hK hN hP hD [5, 2, 3, 6, 1, 7, 8, 9] rfl (by decide) 5 5 rfl rfl rfl hl.1 rfl (Nat.le_of_ble_eq_true rfl) dX8_putFor_133 ⟨Nat.zero_le _, Nat.zero_le _⟩) hP hD hS hA [5, 2, 3, 6, 1, 7, 8, 9] [0, 4, 10, 11, 12, 13] rfl rfl (by decide) (by decide) [0, 10, 7, 8, 1, 6, 9, 11, 12, 13, 2, 3, 4, 5] (by decide) rfl rfl (fun H locs hP hD hS => ?_)
        refine lv_aload_n hx hb dX8_putFor_136 rfl (lv_at hl 0 rfl) ?_
        refine va_get (D := D) (ci := 7) (v := .ref (qN 2)) (C := RX8) (T := TX8) (N := 9) hx hb ht0 niX8 hown hK hP 0 rfl rfl 2 (by decide) (ht0 _ wd578) (fun _ h9 => h9) rfl dX8_putFor_137 ?_
        refine lv_iload_n hx hb dX8_putFor_140 rfl (lv_at hl 1 rfl) ?_
        refine lv_iload hx hb dX8_putFor_141 (lv_at hl 6 rfl) ?_
        obtain ⟨⟨vW_cells_143, vW_who_143⟩, hc143, hok⟩ := k_bind hok
        try dsimp only at hok
        refine kCv (wc := (wX6_shift cy (qN 2) qW aH aH vW_133 vW_cells_133 vW_who_133)) (wc2 := (wX6_shift cy (qN 2) qW aH aH vW_133 vW_cells_143 vW_who_143)) (wr := [(aN, oX8 vN qN aH), (aH, oX4 vH qH), (qN 1, oX1 vD qD), (qD 0, rI cy 9 vD_now), (qH 9, rI cy 4 vH_places), (qH 14, rI cy 7 vH_kinds), (qH 8, rI cy 4 vH_sorts), (qH 10, rI cy 36 vH_next), (qW 2, rI cy 7 vW_inFront_68), (qH 15, rI cy 7 vH_sizes), (qH 11, rI cy 36 vH_width)]) (ws2 := (wX8_putFor cy aN qN aH qH qD qW aH0 aH aH vN vH vD vD_now vH_places vW_133 vW_who_143 vH_kinds vW_cells_143 vH_sorts vH_next vW_inFront_68 vH_sizes vH_width)) (kRunV (As := [.int x1, .int y6_120]) (rest := []) ⟨hx, hb, hml, hown, ht0⟩ (kX6_shift l D cy _ (qN 2) qW aH vW_133 vW_cells_133 vW_who_133 x1 y6_120 vW_cells_143 vW_who_143 hc143 _ rfl) (cwV 2 ht0 (gV wd621 wd622 wd623 wd114 wd624) rfl rfl rfl (by decide +kernel) ⟨Nat.le_of_ble_eq_true rfl, Nat.le_of_ble_eq_true rfl⟩) hK hN hP hD [5, 8, 6] rfl (by decide) 5 5 rfl rfl rfl hl.1 rfl (Nat.le_of_ble_eq_true rfl) dX8_putFor_143 ⟨Nat.zero_le _, Nat.zero_le _⟩) hP hD hS hA [5, 8, 6] [0, 1, 2, 3, 4, 7, 9, 10, 11, 12, 13] rfl rfl (by decide) (by decide) [0, 1, 2, 3, 4, 11, 13, 5, 12, 6, 7, 8, 9, 10] (by decide) rfl rfl (fun H locs hP hD hS => ?_)
        refine lv_aload_n hx hb dX8_putFor_146 rfl (lv_at hl 0 rfl) ?_
        refine va_get (D := D) (ci := 7) (v := .ref (qN 2)) (C := RX8) (T := TX8) (N := 9) hx hb ht0 niX8 hown hK hP 0 rfl rfl 2 (by decide) (ht0 _ wd578) (fun _ h9 => h9) rfl dX8_putFor_147 ?_
        refine lv_iload_n hx hb dX8_putFor_150 rfl (lv_at hl 3 rfl) ?_
        obtain ⟨⟨r151, vW_151, vW_cells_151, vW_who_151, vW_inFront_151⟩, hc151, hok⟩ := k_bind hok
        try dsimp only at hok
        refine kCi (wc := (wX6_goOn cy (qN 2) qW aH qH aH vW_133 vH vW_cells_143 vH_next vW_who_143 vW_inFront_68 vH_sizes vH_width vH_kinds)) (wc2 := (wX6_goOn cy (qN 2) qW aH qH aH vW_151 vH vW_cells_151 vH_next vW_who_151 vW_inFront_151 vH_sizes vH_width vH_kinds)) (wr := [(aN, oX8 vN qN aH), (qN 1, oX1 vD qD), (qD 0, rI cy 9 vD_now), (qH 9, rI cy 4 vH_places), (qH 8, rI cy 4 vH_sorts)]) (ws2 := (wX8_putFor cy aN qN aH qH qD qW aH0 aH aH vN vH vD vD_now vH_places vW_151 vW_who_151 vH_kinds vW_cells_151 vH_sorts vH_next vW_inFront_151 vH_sizes vH_width)) (kRunV (As := [.int x3]) (rest := []) ⟨hx, hb, hml, hown, ht0⟩ (kX6_goOn l D cy _ (qN 2) qW aH qH vW_133 vH vW_cells_143 vH_next vW_who_143 vW_inFront_68 vH_sizes vH_width vH_kinds x3 r151 vW_151 vW_cells_151 vW_who_151 vW_inFront_151 hc151 _ rfl) (cwV 1 ht0 (gV wd593 wd185 wd186 wd114 wd187) rfl rfl rfl (by decide +kernel) ⟨Nat.le_of_ble_eq_true rfl, Nat.le_of_ble_eq_true rfl⟩) hK hN hP hD [5, 1, 8, 10, 6, 11, 12, 13, 7] rfl (by decide) 5 5 rfl rfl rfl hl.1 rfl (Nat.le_of_ble_eq_true rfl) dX8_putFor_151 ⟨Nat.zero_le _, Nat.zero_le _⟩) hP hD hS hA [5, 1, 8, 10, 6, 11, 12, 13, 7] [0, 2, 3, 4, 9] rfl rfl (by decide) (by decide) [0, 6, 1, 2, 3, 5, 9, 13, 7, 4, 8, 10, 11, 12] (by decide) rfl rfl (fun H locs hP hD hS => ?_)
        refine lv_pop hx hb dX8_putFor_154 rfl ?_
        refine lv_aload_n hx hb dX8_putFor_155 rfl (lv_at hl 0 rfl) ?_
        refine va_get (D := D) (ci := 7) (v := .ref (qN 2)) (C := RX8) (T := TX8) (N := 9) hx hb ht0 niX8 hown hK hP 0 rfl rfl 2 (by decide) (ht0 _ wd578) (fun _ h9 => h9) rfl dX8_putFor_156 ?_
        refine lv_iload_n hx hb dX8_putFor_159 rfl (lv_at hl 1 rfl) ?_
        obtain ⟨r160, hc160, hok⟩ := k_bind hok
        refine kCi (wc := (wX6_cellOf cy (qN 2) qW aH aH vW_151 vW_cells_151)) (wc2 := (wX6_cellOf cy (qN 2) qW aH aH vW_151 vW_cells_151)) (wr := [(aN, oX8 vN qN aH), (aH, oX4 vH qH), (qN 1, oX1 vD qD), (qD 0, rI cy 9 vD_now), (qH 9, rI cy 4 vH_places), (qW 1, rI cy 36 vW_who_151), (qH 14, rI cy 7 vH_kinds), (qH 8, rI cy 4 vH_sorts), (qH 10, rI cy 36 vH_next), (qW 2, rI cy 7 vW_inFront_151), (qH 15, rI cy 7 vH_sizes), (qH 11, rI cy 36 vH_width)]) (ws2 := (wX8_putFor cy aN qN aH qH qD qW aH0 aH aH vN vH vD vD_now vH_places vW_151 vW_who_151 vH_kinds vW_cells_151 vH_sorts vH_next vW_inFront_151 vH_sizes vH_width)) (kRunV (As := [.int x1]) (rest := []) ⟨hx, hb, hml, hown, ht0⟩ (kX6_cellOf l D cy _ (qN 2) qW aH vW_151 vW_cells_151 x1 r160 hc160 _ rfl) (cwV 1 ht0 (gV wd594 wd163 wd164 wd114 wd165) rfl rfl rfl (by decide +kernel) ⟨Nat.le_of_ble_eq_true rfl, Nat.le_of_ble_eq_true rfl⟩) hK hN hP hD [5, 8] rfl (by decide) 5 5 rfl rfl rfl hl.1 rfl (Nat.le_of_ble_eq_true rfl) dX8_putFor_160 ⟨Nat.zero_le _, Nat.zero_le _⟩) hP hD hS hA [5, 8] [0, 1, 2, 3, 4, 6, 7, 9, 10, 11, 12, 13] rfl rfl (by decide) (by decide) [0, 1, 2, 3, 4, 12, 5, 6, 13, 7, 8, 9, 10, 11] (by decide) rfl rfl (fun H locs hP hD hS => ?_)
        refine lv_iload hx hb dX8_putFor_163 (lv_at hl 4 rfl) ?_
        refine lv_iload_n hx hb dX8_putFor_165 rfl (lv_at hl 2 rfl) ?_
        obtain ⟨r166, hc166, hok⟩ := k_bind hok
        refine kCi (wc := (wX8_cellAt cy )) (wc2 := (wX8_cellAt cy )) (wr := [(aN, oX8 vN qN aH), (aH, oX4 vH qH), (qN 1, oX1 vD qD), (qD 0, rI cy 9 vD_now), (qH 9, rI cy 4 vH_places), (qN 2, oX6 vW_151 qW aH), (qW 1, rI cy 36 vW_who_151), (qH 14, rI cy 7 vH_kinds), (qW 0, rI cy 7 vW_cells_151), (qH 8, rI cy 4 vH_sorts), (qH 10, rI cy 36 vH_next), (qW 2, rI cy 7 vW_inFront_151), (qH 15, rI cy 7 vH_sizes), (qH 11, rI cy 36 vH_width)]) (ws2 := (wX8_putFor cy aN qN aH qH qD qW aH0 aH aH vN vH vD vD_now vH_places vW_151 vW_who_151 vH_kinds vW_cells_151 vH_sorts vH_next vW_inFront_151 vH_sizes vH_width)) (kRunS (As := [.int y4_68, .int x2]) (rest := [.int r160]) ⟨hx, hb, hml, hown, ht0⟩ (kX8_cellAt l D cy _ y4_68 x2 r166 hc166 _ rfl) (va_cwS 2 ht0 (gS wd570 wd261 wd57 wd260) rfl rfl rfl (by decide +kernel) ⟨Nat.le_of_ble_eq_true rfl, Nat.le_of_ble_eq_true rfl⟩) hK hN hP hD [] rfl (by decide) rfl hl.1 rfl (Nat.le_of_ble_eq_true rfl) dX8_putFor_166 ⟨Nat.zero_le _, Nat.zero_le _⟩) hP hD hS hA [] [0, 1, 2, 3, 4, 5, 6, 7, 8, 9, 10, 11, 12, 13] rfl rfl (by decide) (by decide) [0, 1, 2, 3, 4, 5, 6, 7, 8, 9, 10, 11, 12, 13] (by decide) rfl rfl (fun H locs hP hD hS => ?_)
        refine lv_icmp_ne (tgt := 179) hx hb dX8_putFor_169 (by decide) (fun c169 => ?_) (fun c169 => ?_)
        · have hok := k_neg c169 hok
          exact J179 vW_cells_151 vW_inFront_151 vW_who_151 aH vW_151 H locs ls hP hD hS (lv_sub hl [0, 1, 2, 3, 4, 5] rfl) hok
        · have hok := k_pos c169 hok
          obtain ⟨e68, hok, he68⟩ := ex_some hok
          have hok := hok.trans (congrArg some (hL68 _ he68))
          refine lv_aload_n hx hb dX8_putFor_172 rfl (lv_at hl 0 rfl) ?_
          refine lv_iload hx hb dX8_putFor_173 (lv_at hl 5 rfl) ?_
          obtain ⟨⟨r175, vN_175⟩, hc175, hok⟩ := k_bind hok
          try dsimp only at hok
          refine kCi (wc := (wX8_answer cy aN qN aH aH vN)) (wc2 := (wX8_answer cy aN qN aH aH vN_175)) (wr := [(aH, oX4 vH qH), (qN 1, oX1 vD qD), (qD 0, rI cy 9 vD_now), (qH 9, rI cy 4 vH_places), (qN 2, oX6 vW_151 qW aH), (qW 1, rI cy 36 vW_who_151), (qH 14, rI cy 7 vH_kinds), (qW 0, rI cy 7 vW_cells_151), (qH 8, rI cy 4 vH_sorts), (qH 10, rI cy 36 vH_next), (qW 2, rI cy 7 vW_inFront_151), (qH 15, rI cy 7 vH_sizes), (qH 11, rI cy 36 vH_width)]) (ws2 := (wX8_putFor cy aN qN aH qH qD qW aH0 aH aH vN_175 vH vD vD_now vH_places vW_151 vW_who_151 vH_kinds vW_cells_151 vH_sorts vH_next vW_inFront_151 vH_sizes vH_width)) (kRunV (As := [.int y5_68]) (rest := []) ⟨hx, hb, hml, hown, ht0⟩ (kX8_answer l D cy _ aN qN aH vN y5_68 r175 vN_175 hc175 _ rfl) (cwV 1 ht0 (gV wd538 wd539 wd540 wd57 wd541) rfl rfl rfl (by decide +kernel) ⟨Nat.le_of_ble_eq_true rfl, Nat.le_of_ble_eq_true rfl⟩) hK hN hP hD [0] rfl (by decide) 0 7 rfl rfl rfl hl.1 rfl (Nat.le_of_ble_eq_true rfl) dX8_putFor_175 ⟨Nat.zero_le _, Nat.zero_le _⟩) hP hD hS hA [0] [1, 2, 3, 4, 5, 6, 7, 8, 9, 10, 11, 12, 13] rfl rfl (by decide) (by decide) [13, 0, 1, 2, 3, 4, 5, 6, 7, 8, 9, 10, 11, 12] (by decide) rfl rfl (fun H locs hP hD hS => ?_)
          cases hok
          subst hQe; exact W.iret hx hb hr (fun t ht hW => ⟨⟨_, (), rfl, rfl, by rw [ht]; exact hP, va_K.moved hW.alike hK, hD⟩, hS.F ht⟩) hS.2.2 dX8_putFor_178
      unfold fX8_putFor_B68 at hok
      try dsimp only at hok
      refine lv_iload hx hb dX8_putFor_68 (lv_at hl 5 rfl) ?_
      refine lv_aload_n hx hb dX8_putFor_70 rfl (lv_at hl 0 rfl) ?_
      refine va_get (D := D) (ci := 7) (v := .ref aH) (C := RX8) (T := TX8) (N := 9) hx hb ht0 niX8 hown hK hP 0 rfl rfl 5 (by decide) (ht0 _ wd522) (fun _ h9 => h9) rfl dX8_putFor_71 ?_
      refine lv_iload hx hb dX8_putFor_74 (lv_at hl 4 rfl) ?_
      obtain ⟨r76, hc76, hok⟩ := k_bind hok
      refine kCi (wc := (wX4_placesOf cy aH qH vH vH_places)) (wc2 := (wX4_placesOf cy aH qH vH vH_places)) (wr := [(aN, oX8 vN qN aH), (qN 1, oX1 vD qD), (qD 0, rI cy 9 vD_now), (qN 2, oX6 vW_68 qW vW_4_68), (qW 1, rI cy 36 vW_who_68), (qH 14, rI cy 7 vH_kinds), (qW 0, rI cy 7 vW_cells_68), (qH 8, rI cy 4 vH_sorts), (qH 10, rI cy 36 vH_next), (qW 2, rI cy 7 vW_inFront_68), (qH 15, rI cy 7 vH_sizes), (qH 11, rI cy 36 vH_width)]) (ws2 := (wX8_putFor cy aN qN aH qH qD qW aH0 aH vW_4_68 vN vH vD vD_now vH_places vW_68 vW_who_68 vH_kinds vW_cells_68 vH_sorts vH_next vW_inFront_68 vH_sizes vH_width)) (kRunV (As := [.int y4_68]) (rest := [.int y5_68]) ⟨hx, hb, hml, hown, ht0⟩ (kX4_placesOf l D cy _ aH qH vH vH_places y4_68 r76 hc76 _ rfl) (cwV 1 ht0 (gV wd549 wd257 wd258 wd9 wd259) rfl rfl rfl (by decide +kernel) ⟨Nat.le_of_ble_eq_true rfl, Nat.le_of_ble_eq_true rfl⟩) hK hN hP hD [1, 4] rfl (by decide) 1 3 rfl rfl rfl hl.1 rfl (Nat.le_of_ble_eq_true rfl) dX8_putFor_76 ⟨Nat.zero_le _, Nat.zero_le _⟩) hP hD hS hA [1, 4] [0, 2, 3, 5, 6, 7, 8, 9, 10, 11, 12, 13] rfl rfl (by decide) (by decide) [0, 12, 1, 2, 13, 3, 4, 5, 6, 7, 8, 9, 10, 11] (by decide) rfl rfl (fun H locs hP hD hS => ?_)
      refine lv_icmp_ge (tgt := 185) hx hb dX8_putFor_79 (by decide) (fun c79 => ?_) (fun c79 => ?_)
      · have hok := k_pos c79 hok
        obtain ⟨e68, hok, he68⟩ := ex_some hok
        have hok := hok.trans (congrArg some (hL68 _ he68))
        refine lv_aload_n hx hb dX8_putFor_185 rfl (lv_at hl 0 rfl) ?_
        refine lv_bipush (v := -2) hx hb dX8_putFor_186 (by decide) ?_
        obtain ⟨⟨r188, vN_188⟩, hc188, hok⟩ := k_bind hok
        try dsimp only at hok
        refine kCi (wc := (wX8_answer cy aN qN aH aH vN)) (wc2 := (wX8_answer cy aN qN aH aH vN_188)) (wr := [(aH, oX4 vH qH), (qN 1, oX1 vD qD), (qD 0, rI cy 9 vD_now), (qH 9, rI cy 4 vH_places), (qN 2, oX6 vW_68 qW vW_4_68), (qW 1, rI cy 36 vW_who_68), (qH 14, rI cy 7 vH_kinds), (qW 0, rI cy 7 vW_cells_68), (qH 8, rI cy 4 vH_sorts), (qH 10, rI cy 36 vH_next), (qW 2, rI cy 7 vW_inFront_68), (qH 15, rI cy 7 vH_sizes), (qH 11, rI cy 36 vH_width)]) (ws2 := (wX8_putFor cy aN qN aH qH qD qW aH0 aH vW_4_68 vN_188 vH vD vD_now vH_places vW_68 vW_who_68 vH_kinds vW_cells_68 vH_sorts vH_next vW_inFront_68 vH_sizes vH_width)) (kRunV (As := [.int (-2)]) (rest := []) ⟨hx, hb, hml, hown, ht0⟩ (kX8_answer l D cy _ aN qN aH vN (-2 : Int32) r188 vN_188 hc188 _ rfl) (cwV 1 ht0 (gV wd538 wd539 wd540 wd57 wd541) rfl rfl rfl (by decide +kernel) ⟨Nat.le_of_ble_eq_true rfl, Nat.le_of_ble_eq_true rfl⟩) hK hN hP hD [0] rfl (by decide) 0 7 rfl rfl rfl hl.1 rfl (Nat.le_of_ble_eq_true rfl) dX8_putFor_188 ⟨Nat.zero_le _, Nat.zero_le _⟩) hP hD hS hA [0] [1, 2, 3, 4, 5, 6, 7, 8, 9, 10, 11, 12, 13] rfl rfl (by decide) (by decide) [13, 0, 1, 2, 3, 4, 5, 6, 7, 8, 9, 10, 11, 12] (by decide) rfl rfl (fun H locs hP hD hS => ?_)
        cases hok
        subst hQe; exact W.iret hx hb hr (fun t ht hW => ⟨⟨_, (), rfl, rfl, by rw [ht]; exact hP, va_K.moved hW.alike hK, hD⟩, hS.F ht⟩) hS.2.2 dX8_putFor_191
      · have hok := k_neg c79 hok
        refine lv_iload hx hb dX8_putFor_82 (lv_at hl 4 rfl) ?_
        refine lv_iload hx hb dX8_putFor_84 (lv_at hl 5 rfl) ?_
        obtain ⟨r86, hc86, hok⟩ := k_bind hok
        refine kCi (wc := (wX8_cellAt cy )) (wc2 := (wX8_cellAt cy )) (wr := [(aN, oX8 vN qN aH), (aH, oX4 vH qH), (qN 1, oX1 vD qD), (qD 0, rI cy 9 vD_now), (qH 9, rI cy 4 vH_places), (qN 2, oX6 vW_68 qW vW_4_68), (qW 1, rI cy 36 vW_who_68), (qH 14, rI cy 7 vH_kinds), (qW 0, rI cy 7 vW_cells_68), (qH 8, rI cy 4 vH_sorts), (qH 10, rI cy 36 vH_next), (qW 2, rI cy 7 vW_inFront_68), (qH 15, rI cy 7 vH_sizes), (qH 11, rI cy 36 vH_width)]) (ws2 := (wX8_putFor cy aN qN aH qH qD qW aH0 aH vW_4_68 vN vH vD vD_now vH_places vW_68 vW_who_68 vH_kinds vW_cells_68 vH_sorts vH_next vW_inFront_68 vH_sizes vH_width)) (kRunS (As := [.int y4_68, .int y5_68]) (rest := []) ⟨hx, hb, hml, hown, ht0⟩ (kX8_cellAt l D cy _ y4_68 y5_68 r86 hc86 _ rfl) (va_cwS 2 ht0 (gS wd570 wd261 wd57 wd260) rfl rfl rfl (by decide +kernel) ⟨Nat.le_of_ble_eq_true rfl, Nat.le_of_ble_eq_true rfl⟩) hK hN hP hD [] rfl (by decide) rfl hl.1 rfl (Nat.le_of_ble_eq_true rfl) dX8_putFor_86 ⟨Nat.zero_le _, Nat.zero_le _⟩) hP hD hS hA [] [0, 1, 2, 3, 4, 5, 6, 7, 8, 9, 10, 11, 12, 13] rfl rfl (by decide) (by decide) [0, 1, 2, 3, 4, 5, 6, 7, 8, 9, 10, 11, 12, 13] (by decide) rfl rfl (fun H locs hP hD hS => ?_)
        refine lv_istore (lv' := [(6, .int r86), (0, .ref aN), (1, .int x1), (2, .int x2), (3, .int x3), (4, .int y4_68), (5, .int y5_68)]) hx hb dX8_putFor_89 hl (by decide) rfl (fun ls hl => ?_)
        refine lv_aload_n hx hb dX8_putFor_91 rfl (lv_at hl 1 rfl) ?_
        refine va_get (D := D) (ci := 7) (v := .ref (qN 1)) (C := RX8) (T := TX8) (N := 9) hx hb ht0 niX8 hown hK hP 0 rfl rfl 1 (by decide) (ht0 _ wd527) (fun _ h9 => h9) rfl dX8_putFor_92 ?_
        refine lv_iload hx hb dX8_putFor_95 (lv_at hl 0 rfl) ?_
        refine lv_aload_n hx hb dX8_putFor_97 rfl (lv_at hl 1 rfl) ?_
        refine va_get (D := D) (ci := 7) (v := .ref aH) (C := RX8) (T := TX8) (N := 9) hx hb ht0 niX8 hown hK hP 0 rfl rfl 5 (by decide) (ht0 _ wd522) (fun _ h9 => h9) rfl dX8_putFor_98 ?_
        refine va_get (D := D) (ci := 3) (v := .int (vH 5)) (C := RX4) (T := TX4) (N := 20) hx hb ht0 niX4 hown hK hP 1 rfl rfl 5 (by decide) (ht0 _ wd543) (fun _ h9 => h9) rfl dX8_putFor_101 ?_
        obtain ⟨r104, hc104, hok⟩ := k_bind hok
        refine kCi (wc := (wX1_thingAt cy (qN 1) qD vD vD_now)) (wc2 := (wX1_thingAt cy (qN 1) qD vD vD_now)) (wr := [(aN, oX8 vN qN aH), (aH, oX4 vH qH), (qH 9, rI cy 4 vH_places), (qN 2, oX6 vW_68 qW vW_4_68), (qW 1, rI cy 36 vW_who_68), (qH 14, rI cy 7 vH_kinds), (qW 0, rI cy 7 vW_cells_68), (qH 8, rI cy 4 vH_sorts), (qH 10, rI cy 36 vH_next), (qW 2, rI cy 7 vW_inFront_68), (qH 15, rI cy 7 vH_sizes), (qH 11, rI cy 36 vH_width)]) (ws2 := (wX8_putFor cy aN qN aH qH qD qW aH0 aH vW_4_68 vN vH vD vD_now vH_places vW_68 vW_who_68 vH_kinds vW_cells_68 vH_sorts vH_next vW_inFront_68 vH_sizes vH_width)) (kRunV (As := [.int r86, .int (vH 5)]) (rest := []) ⟨hx, hb, hml, hown, ht0⟩ (kX1_thingAt l D cy _ (qN 1) qD vD vD_now r86 (vH 5) r104 hc104 _ rfl) (cwV 2 ht0 (gV wd571 wd572 wd573 wd74 wd574) rfl rfl rfl (by decide +kernel) ⟨Nat.le_of_ble_eq_true rfl, Nat.le_of_ble_eq_true rfl⟩) hK hN hP hD [2, 3] rfl (by decide) 2 1 rfl rfl rfl hl.1 rfl (Nat.le_of_ble_eq_true rfl) dX8_putFor_104 ⟨Nat.zero_le _, Nat.zero_le _⟩) hP hD hS hA [2, 3] [0, 1, 4, 5, 6, 7, 8, 9, 10, 11, 12, 13] rfl rfl (by decide) (by decide) [0, 1, 12, 13, 2, 3, 4, 5, 6, 7, 8, 9, 10, 11] (by decide) rfl rfl (fun H locs hP hD hS => ?_)
        refine lv_istore (lv' := [(7, .int r104), (6, .int r86), (0, .ref aN), (1, .int x1), (2, .int x2), (3, .int x3), (4, .int y4_68), (5, .int y5_68)]) hx hb dX8_putFor_107 hl (by decide) rfl (fun ls hl => ?_)
        refine lv_iload hx hb dX8_putFor_109 (lv_at hl 0 rfl) ?_
        refine lv_if_lt (tgt := 120) hx hb dX8_putFor_111 (by decide) (fun c111 => ?_) (fun c111 => ?_)
        · have hok := k_pos c111 hok
          exact J120 r86 H locs ls hP hD hS (lv_sub hl [2, 3, 4, 5, 6, 7, 1] rfl) hok
        · have hok := k_neg c111 hok
          refine lv_iload hx hb dX8_putFor_114 (lv_at hl 0 rfl) ?_
          refine lv_iload_n hx hb dX8_putFor_116 rfl (lv_at hl 3 rfl) ?_
          refine lv_icmp_ne (tgt := 179) hx hb dX8_putFor_117 (by decide) (fun c117 => ?_) (fun c117 => ?_)
          · have hok := k_neg c117 hok
            exact J179 vW_cells_68 vW_inFront_68 vW_who_68 vW_4_68 vW_68 H locs ls hP hD hS (lv_sub hl [2, 3, 4, 5, 6, 7] rfl) hok
          · have hok := k_pos c117 hok
            exact J120 r86 H locs ls hP hD hS (lv_sub hl [2, 3, 4, 5, 6, 7, 1] rfl) hok
  have J59 : ∀ (H : Heap) (locs : List Loc) (ls : Array Slot), va_P D vwCl (wX8_putFor cy aN qN aH qH qD qW aH0 aH aH0 vN vH vD vD_now vH_places vW vW_who vH_kinds vW_cells vH_sorts vH_next vW_inFront vH_sizes vH_width) H → va_D A (wX8_putFor cy aN qN aH qH qD qW aH0 aH aH0 vN vH vD vD_now vH_places vW vW_who vH_kinds vW_cells vH_sorts vH_next vW_inFront vH_sizes vH_width) → va_S A s.heap H locs → lv_has ls 8 [(0, .ref aN)] → fX8_putFor_J59 aH0 vN vW vW_who vW_cells vW_inFront = some (zr, z_vN, z_vW, z_vW_who, z_vW_cells, z_vW_inFront, z_aH0) → W p l e ({ frames := 4, cells := 0, slots := 0, locals := 96 } : Room) s m ([.ref aN, .int x1, .int x2, .int x3] : List Value).toArray below meth c H locs 0 0 Q (F0 m 59 ls []) := by
    intro  H locs ls hP hD hS hl hok
    unfold fX8_putFor_J59 at hok
    refine lv_aload_n hx hb dX8_putFor_59 rfl (lv_at hl 0 rfl) ?_
    refine lv_iconst (v := 2) hx hb dX8_putFor_60 (by decide) ?_
    obtain ⟨⟨r61, vN_61⟩, hc61, hok⟩ := k_bind hok
    try dsimp only at hok
    refine kCi (wc := (wX8_refuse cy aN qN aH aH vN)) (wc2 := (wX8_refuse cy aN qN aH aH vN_61)) (wr := [(aH, oX4 vH qH), (qN 1, oX1 vD qD), (qD 0, rI cy 9 vD_now), (qH 9, rI cy 4 vH_places), (qN 2, oX6 vW qW aH0), (qW 1, rI cy 36 vW_who), (qH 14, rI cy 7 vH_kinds), (qW 0, rI cy 7 vW_cells), (qH 8, rI cy 4 vH_sorts), (qH 10, rI cy 36 vH_next), (qW 2, rI cy 7 vW_inFront), (qH 15, rI cy 7 vH_sizes), (qH 11, rI cy 36 vH_width)]) (ws2 := (wX8_putFor cy aN qN aH qH qD qW aH0 aH aH0 vN_61 vH vD vD_now vH_places vW vW_who vH_kinds vW_cells vH_sorts vH_next vW_inFront vH_sizes vH_width)) (kRunV (As := [.int 2]) (rest := []) ⟨hx, hb, hml, hown, ht0⟩ (kX8_refuse l D cy _ aN qN aH vN (2 : Int32) r61 vN_61 hc61 _ rfl) (cwV 1 ht0 (gV wd504 wd505 wd506 wd57 wd507) rfl rfl rfl (by decide +kernel) ⟨Nat.le_of_ble_eq_true rfl, Nat.le_of_ble_eq_true rfl⟩) hK hN hP hD [0] rfl (by decide) 0 7 rfl rfl rfl hl.1 rfl (Nat.le_of_ble_eq_true rfl) dX8_putFor_61 ⟨Nat.zero_le _, Nat.zero_le _⟩) hP hD hS hA [0] [1, 2, 3, 4, 5, 6, 7, 8, 9, 10, 11, 12, 13] rfl rfl (by decide) (by decide) [13, 0, 1, 2, 3, 4, 5, 6, 7, 8, 9, 10, 11, 12] (by decide) rfl rfl (fun H locs hP hD hS => ?_)
    cases hok
    subst hQe; exact W.iret hx hb hr (fun t ht hW => ⟨⟨_, (), rfl, rfl, by rw [ht]; exact hP, va_K.moved hW.alike hK, hD⟩, hS.F ht⟩) hS.2.2 dX8_putFor_64
  unfold fX8_putFor at hok
  obtain ⟨H, hH⟩ : ∃ H, H = s.heap := ⟨_, rfl⟩
  obtain ⟨locs, hlc⟩ : ∃ x : List Loc, x = [] := ⟨_, rfl⟩
  have hP : va_P D vwCl (wX8_putFor cy aN qN aH qH qD qW aH0 aH aH0 vN vH vD vD_now vH_places vW vW_who vH_kinds vW_cells vH_sorts vH_next vW_inFront vH_sizes vH_width) H := by rw [hH]; exact hP
  have hS : va_S A s.heap H locs := by rw [hH, hlc]; exact hS
  rw [show W p l e _ s m _ below meth c s.heap [] = W p l e _ s m _ below meth c H locs from by rw [hH, hlc]]
  refine lv_aload_n hx hb dX8_putFor_0 rfl (lv_at hl 0 rfl) ?_
  refine va_get (D := D) (ci := 7) (v := .ref aH) (C := RX8) (T := TX8) (N := 9) hx hb ht0 niX8 hown hK hP 0 rfl rfl 5 (by decide) (ht0 _ wd522) (fun _ h9 => h9) rfl dX8_putFor_1 ?_
  refine lv_iload_n hx hb dX8_putFor_4 rfl (lv_at hl 1 rfl) ?_
  obtain ⟨r5, hc5, hok⟩ := k_bind hok
  refine kCi (wc := (wX4_hasThing cy aH qH vH)) (wc2 := (wX4_hasThing cy aH qH vH)) (wr := [(aN, oX8 vN qN aH), (qN 1, oX1 vD qD), (qD 0, rI cy 9 vD_now), (qH 9, rI cy 4 vH_places), (qN 2, oX6 vW qW aH0), (qW 1, rI cy 36 vW_who), (qH 14, rI cy 7 vH_kinds), (qW 0, rI cy 7 vW_cells), (qH 8, rI cy 4 vH_sorts), (qH 10, rI cy 36 vH_next), (qW 2, rI cy 7 vW_inFront), (qH 15, rI cy 7 vH_sizes), (qH 11, rI cy 36 vH_width)]) (ws2 := (wX8_putFor cy aN qN aH qH qD qW aH0 aH aH0 vN vH vD vD_now vH_places vW vW_who vH_kinds vW_cells vH_sorts vH_next vW_inFront vH_sizes vH_width)) (kRunV (As := [.int x1]) (rest := []) ⟨hx, hb, hml, hown, ht0⟩ (kX4_hasThing l D cy _ aH qH vH x1 r5 hc5 _ rfl) (cwV 1 ht0 (gV wd551 wd552 wd553 wd9 wd554) rfl rfl rfl (by decide +kernel) ⟨Nat.le_of_ble_eq_true rfl, Nat.le_of_ble_eq_true rfl⟩) hK hN hP hD [1] rfl (by decide) 1 3 rfl rfl rfl hl.1 rfl (Nat.le_of_ble_eq_true rfl) dX8_putFor_5 ⟨Nat.zero_le _, Nat.zero_le _⟩) hP hD hS hA [1] [0, 2, 3, 4, 5, 6, 7, 8, 9, 10, 11, 12, 13] rfl rfl (by decide) (by decide) [0, 13, 1, 2, 3, 4, 5, 6, 7, 8, 9, 10, 11, 12] (by decide) rfl rfl (fun H locs hP hD hS => ?_)
  refine lv_if_ne (tgt := 17) hx hb dX8_putFor_8 (by decide) (fun c8 => ?_) (fun c8 => ?_)
  · have hok := k_neg c8 hok
    refine lv_aload_n hx hb dX8_putFor_17 rfl (lv_at hl 0 rfl) ?_
    refine va_get (D := D) (ci := 7) (v := .ref (qN 1)) (C := RX8) (T := TX8) (N := 9) hx hb ht0 niX8 hown hK hP 0 rfl rfl 1 (by decide) (ht0 _ wd527) (fun _ h9 => h9) rfl dX8_putFor_18 ?_
    refine lv_iload_n hx hb dX8_putFor_21 rfl (lv_at hl 1 rfl) ?_
    obtain ⟨r22, hc22, hok⟩ := k_bind hok
    refine kCi (wc := (wX1_cellOf cy (qN 1) qD vD vD_now)) (wc2 := (wX1_cellOf cy (qN 1) qD vD vD_now)) (wr := [(aN, oX8 vN qN aH), (aH, oX4 vH qH), (qH 9, rI cy 4 vH_places), (qN 2, oX6 vW qW aH0), (qW 1, rI cy 36 vW_who), (qH 14, rI cy 7 vH_kinds), (qW 0, rI cy 7 vW_cells), (qH 8, rI cy 4 vH_sorts), (qH 10, rI cy 36 vH_next), (qW 2, rI cy 7 vW_inFront), (qH 15, rI cy 7 vH_sizes), (qH 11, rI cy 36 vH_width)]) (ws2 := (wX8_putFor cy aN qN aH qH qD qW aH0 aH aH0 vN vH vD vD_now vH_places vW vW_who vH_kinds vW_cells vH_sorts vH_next vW_inFront vH_sizes vH_width)) (kRunV (As := [.int x1]) (rest := []) ⟨hx, hb, hml, hown, ht0⟩ (kX1_cellOf l D cy _ (qN 1) qD vD vD_now x1 r22 hc22 _ rfl) (cwV 1 ht0 (gV wd556 wd82 wd83 wd74 wd84) rfl rfl rfl (by decide +kernel) ⟨Nat.le_of_ble_eq_true rfl, Nat.le_of_ble_eq_true rfl⟩) hK hN hP hD [2, 3] rfl (by decide) 2 1 rfl rfl rfl hl.1 rfl (Nat.le_of_ble_eq_true rfl) dX8_putFor_22 ⟨Nat.zero_le _, Nat.zero_le _⟩) hP hD hS hA [2, 3] [0, 1, 4, 5, 6, 7, 8, 9, 10, 11, 12, 13] rfl rfl (by decide) (by decide) [0, 1, 12, 13, 2, 3, 4, 5, 6, 7, 8, 9, 10, 11] (by decide) rfl rfl (fun H locs hP hD hS => ?_)
    obtain ⟨r25, hc25, hok⟩ := k_bind hok
    refine kCi (wc := (wX8_ringOfCell cy )) (wc2 := (wX8_ringOfCell cy )) (wr := [(aN, oX8 vN qN aH), (aH, oX4 vH qH), (qN 1, oX1 vD qD), (qD 0, rI cy 9 vD_now), (qH 9, rI cy 4 vH_places), (qN 2, oX6 vW qW aH0), (qW 1, rI cy 36 vW_who), (qH 14, rI cy 7 vH_kinds), (qW 0, rI cy 7 vW_cells), (qH 8, rI cy 4 vH_sorts), (qH 10, rI cy 36 vH_next), (qW 2, rI cy 7 vW_inFront), (qH 15, rI cy 7 vH_sizes), (qH 11, rI cy 36 vH_width)]) (ws2 := (wX8_putFor cy aN qN aH qH qD qW aH0 aH aH0 vN vH vD vD_now vH_places vW vW_who vH_kinds vW_cells vH_sorts vH_next vW_inFront vH_sizes vH_width)) (kRunS (As := [.int r22]) (rest := []) ⟨hx, hb, hml, hown, ht0⟩ (kX8_ringOfCell l D cy _ r22 r25 hc25 _ rfl) (va_cwS 1 ht0 (gS wd557 wd58 wd57 wd56) rfl rfl rfl (by decide +kernel) ⟨Nat.le_of_ble_eq_true rfl, Nat.le_of_ble_eq_true rfl⟩) hK hN hP hD [] rfl (by decide) rfl hl.1 rfl (Nat.le_of_ble_eq_true rfl) dX8_putFor_25 ⟨Nat.zero_le _, Nat.zero_le _⟩) hP hD hS hA [] [0, 1, 2, 3, 4, 5, 6, 7, 8, 9, 10, 11, 12, 13] rfl rfl (by decide) (by decide) [0, 1, 2, 3, 4, 5, 6, 7, 8, 9, 10, 11, 12, 13] (by decide) rfl rfl (fun H locs hP hD hS => ?_)
    refine lv_istore (lv' := [(4, .int r25), (0, .ref aN), (1, .int x1), (2, .int x2), (3, .int x3)]) hx hb dX8_putFor_28 hl (by decide) rfl (fun ls hl => ?_)
    refine lv_aload_n hx hb dX8_putFor_30 rfl (lv_at hl 1 rfl) ?_
    refine va_get (D := D) (ci := 7) (v := .ref aH) (C := RX8) (T := TX8) (N := 9) hx hb ht0 niX8 hown hK hP 0 rfl rfl 5 (by decide) (ht0 _ wd522) (fun _ h9 => h9) rfl dX8_putFor_31 ?_
    refine lv_iload hx hb dX8_putFor_34 (lv_at hl 0 rfl) ?_
    refine lv_iload_n hx hb dX8_putFor_36 rfl (lv_at hl 3 rfl) ?_
    obtain ⟨r37, hc37, hok⟩ := k_bind hok
    refine kCi (wc := (wX4_hasPlace cy aH qH vH vH_places)) (wc2 := (wX4_hasPlace cy aH qH vH vH_places)) (wr := [(aN, oX8 vN qN aH), (qN 1, oX1 vD qD), (qD 0, rI cy 9 vD_now), (qN 2, oX6 vW qW aH0), (qW 1, rI cy 36 vW_who), (qH 14, rI cy 7 vH_kinds), (qW 0, rI cy 7 vW_cells), (qH 8, rI cy 4 vH_sorts), (qH 10, rI cy 36 vH_next), (qW 2, rI cy 7 vW_inFront), (qH 15, rI cy 7 vH_sizes), (qH 11, rI cy 36 vH_width)]) (ws2 := (wX8_putFor cy aN qN aH qH qD qW aH0 aH aH0 vN vH vD vD_now vH_places vW vW_who vH_kinds vW_cells vH_sorts vH_next vW_inFront vH_sizes vH_width)) (kRunV (As := [.int r25, .int x2]) (rest := []) ⟨hx, hb, hml, hown, ht0⟩ (kX4_hasPlace l D cy _ aH qH vH vH_places r25 x2 r37 hc37 _ rfl) (cwV 2 ht0 (gV wd566 wd567 wd568 wd9 wd569) rfl rfl rfl (by decide +kernel) ⟨Nat.le_of_ble_eq_true rfl, Nat.le_of_ble_eq_true rfl⟩) hK hN hP hD [1, 4] rfl (by decide) 1 3 rfl rfl rfl hl.1 rfl (Nat.le_of_ble_eq_true rfl) dX8_putFor_37 ⟨Nat.zero_le _, Nat.zero_le _⟩) hP hD hS hA [1, 4] [0, 2, 3, 5, 6, 7, 8, 9, 10, 11, 12, 13] rfl rfl (by decide) (by decide) [0, 12, 1, 2, 13, 3, 4, 5, 6, 7, 8, 9, 10, 11] (by decide) rfl rfl (fun H locs hP hD hS => ?_)
    refine lv_if_ne (tgt := 49) hx hb dX8_putFor_40 (by decide) (fun c40 => ?_) (fun c40 => ?_)
    · have hok := k_neg c40 hok
      refine lv_iload_n hx hb dX8_putFor_49 rfl (lv_at hl 4 rfl) ?_
      refine lv_if_lt (tgt := 59) hx hb dX8_putFor_50 (by decide) (fun c50 => ?_) (fun c50 => ?_)
      · have hok := k_pos c50 hok
        exact J59  H locs ls hP hD hS (lv_sub hl [1] rfl) hok
      · have hok := k_neg c50 hok
        refine lv_iload_n hx hb dX8_putFor_53 rfl (lv_at hl 4 rfl) ?_
        refine lv_bipush (v := 60) hx hb dX8_putFor_54 (by decide) ?_
        refine lv_icmp_le (tgt := 65) hx hb dX8_putFor_56 (by decide) (fun c56 => ?_) (fun c56 => ?_)
        · have hok := k_pos c56 hok
          refine lv_iconst (v := 0) hx hb dX8_putFor_65 (by decide) ?_
          refine lv_istore (lv' := [(5, .int 0), (4, .int r25), (0, .ref aN), (1, .int x1), (2, .int x2), (3, .int x3)]) hx hb dX8_putFor_66 hl (by decide) rfl (fun ls hl => ?_)
          exact L68 5000 r25 (0 : Int32) vW_cells vW_inFront vW_who aH0 vW H locs ls hP hD hS (lv_sub hl [2, 3, 4, 5, 1, 0] rfl) hok
        · have hok := k_neg c56 hok
          exact J59  H locs ls hP hD hS (lv_sub hl [1] rfl) hok
    · have hok := k_pos c40 hok
      refine lv_aload_n hx hb dX8_putFor_43 rfl (lv_at hl 1 rfl) ?_
      refine lv_iconst (v := 1) hx hb dX8_putFor_44 (by decide) ?_
      obtain ⟨⟨r45, vN_45⟩, hc45, hok⟩ := k_bind hok
      try dsimp only at hok
      refine kCi (wc := (wX8_refuse cy aN qN aH aH vN)) (wc2 := (wX8_refuse cy aN qN aH aH vN_45)) (wr := [(aH, oX4 vH qH), (qN 1, oX1 vD qD), (qD 0, rI cy 9 vD_now), (qH 9, rI cy 4 vH_places), (qN 2, oX6 vW qW aH0), (qW 1, rI cy 36 vW_who), (qH 14, rI cy 7 vH_kinds), (qW 0, rI cy 7 vW_cells), (qH 8, rI cy 4 vH_sorts), (qH 10, rI cy 36 vH_next), (qW 2, rI cy 7 vW_inFront), (qH 15, rI cy 7 vH_sizes), (qH 11, rI cy 36 vH_width)]) (ws2 := (wX8_putFor cy aN qN aH qH qD qW aH0 aH aH0 vN_45 vH vD vD_now vH_places vW vW_who vH_kinds vW_cells vH_sorts vH_next vW_inFront vH_sizes vH_width)) (kRunV (As := [.int 1]) (rest := []) ⟨hx, hb, hml, hown, ht0⟩ (kX8_refuse l D cy _ aN qN aH vN (1 : Int32) r45 vN_45 hc45 _ rfl) (cwV 1 ht0 (gV wd504 wd505 wd506 wd57 wd507) rfl rfl rfl (by decide +kernel) ⟨Nat.le_of_ble_eq_true rfl, Nat.le_of_ble_eq_true rfl⟩) hK hN hP hD [0] rfl (by decide) 0 7 rfl rfl rfl hl.1 rfl (Nat.le_of_ble_eq_true rfl) dX8_putFor_45 ⟨Nat.zero_le _, Nat.zero_le _⟩) hP hD hS hA [0] [1, 2, 3, 4, 5, 6, 7, 8, 9, 10, 11, 12, 13] rfl rfl (by decide) (by decide) [13, 0, 1, 2, 3, 4, 5, 6, 7, 8, 9, 10, 11, 12] (by decide) rfl rfl (fun H locs hP hD hS => ?_)
      cases hok
      subst hQe; exact W.iret hx hb hr (fun t ht hW => ⟨⟨_, (), rfl, rfl, by rw [ht]; exact hP, va_K.moved hW.alike hK, hD⟩, hS.F ht⟩) hS.2.2 dX8_putFor_48
  · have hok := k_pos c8 hok
    refine lv_aload_n hx hb dX8_putFor_11 rfl (lv_at hl 0 rfl) ?_
    refine lv_iconst (v := 1) hx hb dX8_putFor_12 (by decide) ?_
    obtain ⟨⟨r13, vN_13⟩, hc13, hok⟩ := k_bind hok
    try dsimp only at hok
    refine kCi (wc := (wX8_refuse cy aN qN aH aH vN)) (wc2 := (wX8_refuse cy aN qN aH aH vN_13)) (wr := [(aH, oX4 vH qH), (qN 1, oX1 vD qD), (qD 0, rI cy 9 vD_now), (qH 9, rI cy 4 vH_places), (qN 2, oX6 vW qW aH0), (qW 1, rI cy 36 vW_who), (qH 14, rI cy 7 vH_kinds), (qW 0, rI cy 7 vW_cells), (qH 8, rI cy 4 vH_sorts), (qH 10, rI cy 36 vH_next), (qW 2, rI cy 7 vW_inFront), (qH 15, rI cy 7 vH_sizes), (qH 11, rI cy 36 vH_width)]) (ws2 := (wX8_putFor cy aN qN aH qH qD qW aH0 aH aH0 vN_13 vH vD vD_now vH_places vW vW_who vH_kinds vW_cells vH_sorts vH_next vW_inFront vH_sizes vH_width)) (kRunV (As := [.int 1]) (rest := []) ⟨hx, hb, hml, hown, ht0⟩ (kX8_refuse l D cy _ aN qN aH vN (1 : Int32) r13 vN_13 hc13 _ rfl) (cwV 1 ht0 (gV wd504 wd505 wd506 wd57 wd507) rfl rfl rfl (by decide +kernel) ⟨Nat.le_of_ble_eq_true rfl, Nat.le_of_ble_eq_true rfl⟩) hK hN hP hD [0] rfl (by decide) 0 7 rfl rfl rfl hl.1 rfl (Nat.le_of_ble_eq_true rfl) dX8_putFor_13 ⟨Nat.zero_le _, Nat.zero_le _⟩) hP hD hS hA [0] [1, 2, 3, 4, 5, 6, 7, 8, 9, 10, 11, 12, 13] rfl rfl (by decide) (by decide) [13, 0, 1, 2, 3, 4, 5, 6, 7, 8, 9, 10, 11, 12] (by decide) rfl rfl (fun H locs hP hD hS => ?_)
    cases hok
    subst hQe; exact W.iret hx hb hr (fun t ht hW => ⟨⟨_, (), rfl, rfl, by rw [ht]; exact hP, va_K.moved hW.alike hK, hD⟩, hS.F ht⟩) hS.2.2 dX8_putFor_16
def wsX8_holdsToMeet : List Cond := .code yX8_holdsToMeet cX8_holdsToMeet 4 (some .int) :: W0
abbrev wX8_holdsToMeet (cy : Nat → ClassId) (aN : Nat) (qN : Nat → Nat) (aH : Nat) (qH : Nat → Nat) (qD : Nat → Nat) (qG : Nat → Nat) (qW : Nat → Nat) (aH0 : Nat) (fvN_5 : Nat) (fvW_4 : Nat) (vN : Nat → Int32) (vH : Nat → Int32) (vD : Nat → Int32) (vD_now : Nat → Int32) (vH_kinds : Nat → Int32) (vG : Nat → Int32) (vW : Nat → Int32) (vW_who : Nat → Int32) (vW_cells : Nat → Int32) (vH_sorts : Nat → Int32) (vH_next : Nat → Int32) (vW_inFront : Nat → Int32) (vH_sizes : Nat → Int32) (vH_width : Nat → Int32) (vH_doorOne : Nat → Int32) (vH_doorTwo : Nat → Int32) : va_W := [(aN, oX8 vN qN fvN_5), (aH, oX4 vH qH), (qN 1, oX1 vD qD), (qD 0, rI cy 9 vD_now), (qH 14, rI cy 7 vH_kinds), (qN 3, oX3 vG qG), (qG 0, oX6 vW qW fvW_4), (qW 1, rI cy 36 vW_who), (qW 0, rI cy 7 vW_cells), (qH 8, rI cy 4 vH_sorts), (qH 10, rI cy 36 vH_next), (qW 2, rI cy 7 vW_inFront), (qH 15, rI cy 7 vH_sizes), (qH 11, rI cy 36 vH_width), (qH 12, rI cy 5 vH_doorOne), (qH 13, rI cy 5 vH_doorTwo)]
set_option maxHeartbeats 4000000 in
set_option maxRecDepth 100000 in
theorem kX8_holdsToMeet (l : Launch) (D : va_G) (cy : Nat → ClassId) (sz : Nat) (aN : Nat) (qN : Nat → Nat) (aH : Nat) (qH : Nat → Nat) (qD : Nat → Nat) (qG : Nat → Nat) (qW : Nat → Nat) (aH0 : Nat) (vN : Nat → Int32) (vH : Nat → Int32) (vD : Nat → Int32) (vD_now : Nat → Int32) (vH_kinds : Nat → Int32) (vG : Nat → Int32) (vW : Nat → Int32) (vW_who : Nat → Int32) (vW_cells : Nat → Int32) (vH_sorts : Nat → Int32) (vH_next : Nat → Int32) (vW_inFront : Nat → Int32) (vH_sizes : Nat → Int32) (vH_width : Nat → Int32) (vH_doorOne : Nat → Int32) (vH_doorTwo : Nat → Int32) (x1 : Int32) (x2 : Int32) (x3 : Int32) (zr : Int32) (z_vN : Nat → Int32) (z_vW : Nat → Int32) (z_vW_who : Nat → Int32) (z_vW_cells : Nat → Int32) (z_vW_inFront : Nat → Int32) (z_aH0 : Nat) (hok : fX8_holdsToMeet aH aH0 vN vH vD vD_now vH_kinds vG vW vW_who vW_cells vH_sorts vH_next vW_inFront vH_sizes vH_width vH_doorOne vH_doorTwo x1 x2 x3 = some (zr, z_vN, z_vW, z_vW_who, z_vW_cells, z_vW_inFront, z_aH0)) (A : Nat → Prop) (hAe : va_A (wX8_holdsToMeet cy aN qN aH qH qD qG qW aH0 aH aH0 vN vH vD vD_now vH_kinds vG vW vW_who vW_cells vH_sorts vH_next vW_inFront vH_sizes vH_width vH_doorOne vH_doorTwo) sz = A) : Met l yX8_holdsToMeet wsX8_holdsToMeet ({ frames := 6, cells := 0, slots := 0, locals := 151 } : Room) (kPre D cy [.ref aN, .int x1, .int x2, .int x3] (wX8_holdsToMeet cy aN qN aH qH qD qG qW aH0 aH aH0 vN vH vD vD_now vH_kinds vG vW vW_who vW_cells vH_sorts vH_next vW_inFront vH_sizes vH_width vH_doorOne vH_doorTwo) sz) (kQi D cy zr A (wX8_holdsToMeet cy aN qN aH qH qD qG qW aH0 aH z_aH0 z_vN vH vD vD_now vH_kinds vG z_vW z_vW_who z_vW_cells vH_sorts vH_next z_vW_inFront vH_sizes vH_width vH_doorOne vH_doorTwo)) 0 0 A := by
  refine Met.ofW (cc := cX8_holdsToMeet) (maxL := 4) (ret := (some .int)) (by decide) rfl ?_
  intro p e s m args below meth c s₁ B hml hv
  obtain ⟨rfl, hsz, hP, hK, hD0, hN⟩ := hv
  have hx := B.exec
  have hb := B.bytes
  have hr := B.returns
  have ht0 : ∀ w ∈ W0, w.before _ s = true := fun w h => atoms_spec (ws := wsX8_holdsToMeet) B.pre w (List.mem_cons_of_mem _ h)
  have hown : s.vm.findClass RX8 = some m.cls := findClass_of_methodNamed B.named
  have hlocks := B.notSynchronized
  subst hsz
  have hD : va_D A (wX8_holdsToMeet cy aN qN aH qH qD qG qW aH0 aH aH0 vN vH vD vD_now vH_kinds vG vW vW_who vW_cells vH_sorts vH_next vW_inFront vH_sizes vH_width vH_doorOne vH_doorTwo) := by rw [← hAe]; exact hD0.self
  have hA : ∀ q : Nat, s.heap.size ≤ q → A q := fun q h => by rw [← hAe]; exact Or.inr h
  have hS : va_S A s.heap s.heap [] := va_S.rf
  have hl := lv_entry ([.ref aN, .int x1, .int x2, .int x3]) (n := 4) (Nat.le_of_ble_eq_true rfl)
  rw [lg_entry_eq]
  generalize (lg_sl ([.ref aN, .int x1, .int x2, .int x3]) ++ List.replicate (4 - (lg_sl ([.ref aN, .int x1, .int x2, .int x3])).length) Slot.unset).toArray = ls at hl ⊢
  have hl : lv_has ls 4 [(0, .ref aN), (1, .int x1), (2, .int x2), (3, .int x3)] := hl
  generalize hQe : MQ below (kQi D cy zr A (wX8_holdsToMeet cy aN qN aH qH qD qG qW aH0 aH z_aH0 z_vN vH vD vD_now vH_kinds vG z_vW z_vW_who z_vW_cells vH_sorts vH_next z_vW_inFront vH_sizes vH_width vH_doorOne vH_doorTwo)) ([.ref aN, .int x1, .int x2, .int x3] : List Value).toArray s 0 0 A = Q
  have J25 : ∀ (H : Heap) (locs : List Loc) (ls : Array Slot), va_P D vwCl (wX8_holdsToMeet cy aN qN aH qH qD qG qW aH0 aH aH0 vN vH vD vD_now vH_kinds vG vW vW_who vW_cells vH_sorts vH_next vW_inFront vH_sizes vH_width vH_doorOne vH_doorTwo) H → va_D A (wX8_holdsToMeet cy aN qN aH qH qD qG qW aH0 aH aH0 vN vH vD vD_now vH_kinds vG vW vW_who vW_cells vH_sorts vH_next vW_inFront vH_sizes vH_width vH_doorOne vH_doorTwo) → va_S A s.heap H locs → lv_has ls 4 [(0, .ref aN)] → fX8_holdsToMeet_J25 aH0 vN vW vW_who vW_cells vW_inFront = some (zr, z_vN, z_vW, z_vW_who, z_vW_cells, z_vW_inFront, z_aH0) → W p l e ({ frames := 6, cells := 0, slots := 0, locals := 151 } : Room) s m ([.ref aN, .int x1, .int x2, .int x3] : List Value).toArray below meth c H locs 0 0 Q (F0 m 25 ls []) := by
    intro  H locs ls hP hD hS hl hok
    unfold fX8_holdsToMeet_J25 at hok
    refine lv_aload_n hx hb dX8_holdsToMeet_25 rfl (lv_at hl 0 rfl) ?_
    refine lv_iconst (v := 2) hx hb dX8_holdsToMeet_26 (by decide) ?_
    obtain ⟨⟨r27, vN_27⟩, hc27, hok⟩ := k_bind hok
    try dsimp only at hok
    refine kCi (wc := (wX8_refuse cy aN qN aH aH vN)) (wc2 := (wX8_refuse cy aN qN aH aH vN_27)) (wr := [(aH, oX4 vH qH), (qN 1, oX1 vD qD), (qD 0, rI cy 9 vD_now), (qH 14, rI cy 7 vH_kinds), (qN 3, oX3 vG qG), (qG 0, oX6 vW qW aH0), (qW 1, rI cy 36 vW_who), (qW 0, rI cy 7 vW_cells), (qH 8, rI cy 4 vH_sorts), (qH 10, rI cy 36 vH_next), (qW 2, rI cy 7 vW_inFront), (qH 15, rI cy 7 vH_sizes), (qH 11, rI cy 36 vH_width), (qH 12, rI cy 5 vH_doorOne), (qH 13, rI cy 5 vH_doorTwo)]) (ws2 := (wX8_holdsToMeet cy aN qN aH qH qD qG qW aH0 aH aH0 vN_27 vH vD vD_now vH_kinds vG vW vW_who vW_cells vH_sorts vH_next vW_inFront vH_sizes vH_width vH_doorOne vH_doorTwo)) (kRunV (As := [.int 2]) (rest := []) ⟨hx, hb, hml, hown, ht0⟩ (kX8_refuse l D cy _ aN qN aH vN (2 : Int32) r27 vN_27 hc27 _ rfl) (cwV 1 ht0 (gV wd504 wd505 wd506 wd57 wd507) rfl rfl rfl (by decide +kernel) ⟨Nat.le_of_ble_eq_true rfl, Nat.le_of_ble_eq_true rfl⟩) hK hN hP hD [0] rfl (by decide) 0 7 rfl rfl rfl hl.1 rfl (Nat.le_of_ble_eq_true rfl) dX8_holdsToMeet_27 ⟨Nat.zero_le _, Nat.zero_le _⟩) hP hD hS hA [0] [1, 2, 3, 4, 5, 6, 7, 8, 9, 10, 11, 12, 13, 14, 15] rfl rfl (by decide) (by decide) [15, 0, 1, 2, 3, 4, 5, 6, 7, 8, 9, 10, 11, 12, 13, 14] (by decide) rfl rfl (fun H locs hP hD hS => ?_)
    cases hok
    subst hQe; exact W.iret hx hb hr (fun t ht hW => ⟨⟨_, (), rfl, rfl, by rw [ht]; exact hP, va_K.moved hW.alike hK, hD⟩, hS.F ht⟩) hS.2.2 dX8_holdsToMeet_30
  unfold fX8_holdsToMeet at hok
  obtain ⟨H, hH⟩ : ∃ H, H = s.heap := ⟨_, rfl⟩
  obtain ⟨locs, hlc⟩ : ∃ x : List Loc, x = [] := ⟨_, rfl⟩
  have hP : va_P D vwCl (wX8_holdsToMeet cy aN qN aH qH qD qG qW aH0 aH aH0 vN vH vD vD_now vH_kinds vG vW vW_who vW_cells vH_sorts vH_next vW_inFront vH_sizes vH_width vH_doorOne vH_doorTwo) H := by rw [hH]; exact hP
  have hS : va_S A s.heap H locs := by rw [hH, hlc]; exact hS
  rw [show W p l e _ s m _ below meth c s.heap [] = W p l e _ s m _ below meth c H locs from by rw [hH, hlc]]
  refine lv_aload_n hx hb dX8_holdsToMeet_0 rfl (lv_at hl 0 rfl) ?_
  refine lv_iload_n hx hb dX8_holdsToMeet_1 rfl (lv_at hl 1 rfl) ?_
  refine lv_iload_n hx hb dX8_holdsToMeet_2 rfl (lv_at hl 2 rfl) ?_
  obtain ⟨r3, hc3, hok⟩ := k_bind hok
  refine kCi (wc := (wX8_areTwo cy aN qN aH qH aH vN vH)) (wc2 := (wX8_areTwo cy aN qN aH qH aH vN vH)) (wr := [(qN 1, oX1 vD qD), (qD 0, rI cy 9 vD_now), (qH 14, rI cy 7 vH_kinds), (qN 3, oX3 vG qG), (qG 0, oX6 vW qW aH0), (qW 1, rI cy 36 vW_who), (qW 0, rI cy 7 vW_cells), (qH 8, rI cy 4 vH_sorts), (qH 10, rI cy 36 vH_next), (qW 2, rI cy 7 vW_inFront), (qH 15, rI cy 7 vH_sizes), (qH 11, rI cy 36 vH_width), (qH 12, rI cy 5 vH_doorOne), (qH 13, rI cy 5 vH_doorTwo)]) (ws2 := (wX8_holdsToMeet cy aN qN aH qH qD qG qW aH0 aH aH0 vN vH vD vD_now vH_kinds vG vW vW_who vW_cells vH_sorts vH_next vW_inFront vH_sizes vH_width vH_doorOne vH_doorTwo)) (kRunV (As := [.int x1, .int x2]) (rest := []) ⟨hx, hb, hml, hown, ht0⟩ (kX8_areTwo l D cy _ aN qN aH qH vN vH x1 x2 r3 hc3 _ rfl) (cwV 2 ht0 (gV wd600 wd601 wd602 wd57 wd603) rfl rfl rfl (by decide +kernel) ⟨Nat.le_of_ble_eq_true rfl, Nat.le_of_ble_eq_true rfl⟩) hK hN hP hD [0, 1] rfl (by decide) 0 7 rfl rfl rfl hl.1 rfl (Nat.le_of_ble_eq_true rfl) dX8_holdsToMeet_3 ⟨Nat.zero_le _, Nat.zero_le _⟩) hP hD hS hA [0, 1] [2, 3, 4, 5, 6, 7, 8, 9, 10, 11, 12, 13, 14, 15] rfl rfl (by decide) (by decide) [14, 15, 0, 1, 2, 3, 4, 5, 6, 7, 8, 9, 10, 11, 12, 13] (by decide) rfl rfl (fun H locs hP hD hS => ?_)
  refine lv_if_ne (tgt := 15) hx hb dX8_holdsToMeet_6 (by decide) (fun c6 => ?_) (fun c6 => ?_)
  · have hok := k_neg c6 hok
    refine lv_iload_n hx hb dX8_holdsToMeet_15 rfl (lv_at hl 3 rfl) ?_
    refine lv_if_lt (tgt := 25) hx hb dX8_holdsToMeet_16 (by decide) (fun c16 => ?_) (fun c16 => ?_)
    · have hok := k_pos c16 hok
      exact J25  H locs ls hP hD hS (lv_sub hl [0] rfl) hok
    · have hok := k_neg c16 hok
      refine lv_iload_n hx hb dX8_holdsToMeet_19 rfl (lv_at hl 3 rfl) ?_
      refine lv_bipush (v := 30) hx hb dX8_holdsToMeet_20 (by decide) ?_
      refine lv_icmp_le (tgt := 31) hx hb dX8_holdsToMeet_22 (by decide) (fun c22 => ?_) (fun c22 => ?_)
      · have hok := k_pos c22 hok
        refine lv_aload_n hx hb dX8_holdsToMeet_31 rfl (lv_at hl 0 rfl) ?_
        refine lv_aload_n hx hb dX8_holdsToMeet_32 rfl (lv_at hl 0 rfl) ?_
        refine va_get (D := D) (ci := 7) (v := .ref (qN 3)) (C := RX8) (T := TX8) (N := 9) hx hb ht0 niX8 hown hK hP 0 rfl rfl 3 (by decide) (ht0 _ wd616) (fun _ h9 => h9) rfl dX8_holdsToMeet_33 ?_
        refine lv_aload_n hx hb dX8_holdsToMeet_36 rfl (lv_at hl 0 rfl) ?_
        refine va_get (D := D) (ci := 7) (v := .ref aH) (C := RX8) (T := TX8) (N := 9) hx hb ht0 niX8 hown hK hP 0 rfl rfl 5 (by decide) (ht0 _ wd522) (fun _ h9 => h9) rfl dX8_holdsToMeet_37 ?_
        refine lv_aload_n hx hb dX8_holdsToMeet_40 rfl (lv_at hl 0 rfl) ?_
        refine va_get (D := D) (ci := 7) (v := .ref (qN 1)) (C := RX8) (T := TX8) (N := 9) hx hb ht0 niX8 hown hK hP 0 rfl rfl 1 (by decide) (ht0 _ wd527) (fun _ h9 => h9) rfl dX8_holdsToMeet_41 ?_
        refine lv_iload_n hx hb dX8_holdsToMeet_44 rfl (lv_at hl 1 rfl) ?_
        refine lv_iload_n hx hb dX8_holdsToMeet_45 rfl (lv_at hl 2 rfl) ?_
        refine lv_iload_n hx hb dX8_holdsToMeet_46 rfl (lv_at hl 3 rfl) ?_
        obtain ⟨⟨r47, vW_47, vW_who_47, vW_cells_47, vW_inFront_47, aH0_47⟩, hc47, hok⟩ := k_bind hok
        try dsimp only at hok
        refine kCi (wc := (wX3_fewestToMeet cy (qN 3) aH (qN 1) qD qH qG qW aH0 aH0 vD vD_now vH vH_kinds vG vW vW_who vW_cells vH_sorts vH_next vW_inFront vH_sizes vH_width vH_doorOne vH_doorTwo)) (wc2 := (wX3_fewestToMeet cy (qN 3) aH (qN 1) qD qH qG qW aH0 aH0_47 vD vD_now vH vH_kinds vG vW_47 vW_who_47 vW_cells_47 vH_sorts vH_next vW_inFront_47 vH_sizes vH_width vH_doorOne vH_doorTwo)) (wr := [(aN, oX8 vN qN aH)]) (ws2 := (wX8_holdsToMeet cy aN qN aH qH qD qG qW aH0 aH aH0_47 vN vH vD vD_now vH_kinds vG vW_47 vW_who_47 vW_cells_47 vH_sorts vH_next vW_inFront_47 vH_sizes vH_width vH_doorOne vH_doorTwo)) (kRunV (As := [.ref aH, .ref (qN 1), .int x1, .int x2, .int x3]) (rest := [.ref aN]) ⟨hx, hb, hml, hown, ht0⟩ (kX3_fewestToMeet l D cy _ (qN 3) aH (qN 1) qD qH qG qW aH0 vD vD_now vH vH_kinds vG vW vW_who vW_cells vH_sorts vH_next vW_inFront vH_sizes vH_width vH_doorOne vH_doorTwo x1 x2 x3 r47 vW_47 vW_who_47 vW_cells_47 vW_inFront_47 aH0_47 hc47 _ rfl) (cwV 5 ht0 (gV wd625 wd626 wd627 wd178 wd628) rfl rfl rfl (by decide +kernel) ⟨Nat.le_of_ble_eq_true rfl, Nat.le_of_ble_eq_true rfl⟩) hK hN hP hD [2, 3, 1, 4, 5, 6, 7, 8, 9, 10, 11, 12, 13, 14, 15] rfl (by decide) 5 2 rfl rfl rfl hl.1 rfl (Nat.le_of_ble_eq_true rfl) dX8_holdsToMeet_47 ⟨Nat.zero_le _, Nat.zero_le _⟩) hP hD hS hA [2, 3, 1, 4, 5, 6, 7, 8, 9, 10, 11, 12, 13, 14, 15] [0] rfl rfl (by decide) (by decide) [0, 3, 1, 2, 4, 5, 6, 7, 8, 9, 10, 11, 12, 13, 14, 15] (by decide) rfl rfl (fun H locs hP hD hS => ?_)
        obtain ⟨⟨r50, vN_50⟩, hc50, hok⟩ := k_bind hok
        try dsimp only at hok
        refine kCi (wc := (wX8_answer cy aN qN aH aH vN)) (wc2 := (wX8_answer cy aN qN aH aH vN_50)) (wr := [(aH, oX4 vH qH), (qN 1, oX1 vD qD), (qD 0, rI cy 9 vD_now), (qH 14, rI cy 7 vH_kinds), (qN 3, oX3 vG qG), (qG 0, oX6 vW_47 qW aH0_47), (qW 1, rI cy 36 vW_who_47), (qW 0, rI cy 7 vW_cells_47), (qH 8, rI cy 4 vH_sorts), (qH 10, rI cy 36 vH_next), (qW 2, rI cy 7 vW_inFront_47), (qH 15, rI cy 7 vH_sizes), (qH 11, rI cy 36 vH_width), (qH 12, rI cy 5 vH_doorOne), (qH 13, rI cy 5 vH_doorTwo)]) (ws2 := (wX8_holdsToMeet cy aN qN aH qH qD qG qW aH0 aH aH0_47 vN_50 vH vD vD_now vH_kinds vG vW_47 vW_who_47 vW_cells_47 vH_sorts vH_next vW_inFront_47 vH_sizes vH_width vH_doorOne vH_doorTwo)) (kRunV (As := [.int r47]) (rest := []) ⟨hx, hb, hml, hown, ht0⟩ (kX8_answer l D cy _ aN qN aH vN r47 r50 vN_50 hc50 _ rfl) (cwV 1 ht0 (gV wd538 wd539 wd540 wd57 wd541) rfl rfl rfl (by decide +kernel) ⟨Nat.le_of_ble_eq_true rfl, Nat.le_of_ble_eq_true rfl⟩) hK hN hP hD [0] rfl (by decide) 0 7 rfl rfl rfl hl.1 rfl (Nat.le_of_ble_eq_true rfl) dX8_holdsToMeet_50 ⟨Nat.zero_le _, Nat.zero_le _⟩) hP hD hS hA [0] [1, 2, 3, 4, 5, 6, 7, 8, 9, 10, 11, 12, 13, 14, 15] rfl rfl (by decide) (by decide) [15, 0, 1, 2, 3, 4, 5, 6, 7, 8, 9, 10, 11, 12, 13, 14] (by decide) rfl rfl (fun H locs hP hD hS => ?_)
        cases hok
        subst hQe; exact W.iret hx hb hr (fun t ht hW => ⟨⟨_, (), rfl, rfl, by rw [ht]; exact hP, va_K.moved hW.alike hK, hD⟩, hS.F ht⟩) hS.2.2 dX8_holdsToMeet_53
      · have hok := k_neg c22 hok
        exact J25  H locs ls hP hD hS (lv_sub hl [0] rfl) hok
  · have hok := k_pos c6 hok
    refine lv_aload_n hx hb dX8_holdsToMeet_9 rfl (lv_at hl 0 rfl) ?_
    refine lv_iconst (v := 1) hx hb dX8_holdsToMeet_10 (by decide) ?_
    obtain ⟨⟨r11, vN_11⟩, hc11, hok⟩ := k_bind hok
    try dsimp only at hok
    refine kCi (wc := (wX8_refuse cy aN qN aH aH vN)) (wc2 := (wX8_refuse cy aN qN aH aH vN_11)) (wr := [(aH, oX4 vH qH), (qN 1, oX1 vD qD), (qD 0, rI cy 9 vD_now), (qH 14, rI cy 7 vH_kinds), (qN 3, oX3 vG qG), (qG 0, oX6 vW qW aH0), (qW 1, rI cy 36 vW_who), (qW 0, rI cy 7 vW_cells), (qH 8, rI cy 4 vH_sorts), (qH 10, rI cy 36 vH_next), (qW 2, rI cy 7 vW_inFront), (qH 15, rI cy 7 vH_sizes), (qH 11, rI cy 36 vH_width), (qH 12, rI cy 5 vH_doorOne), (qH 13, rI cy 5 vH_doorTwo)]) (ws2 := (wX8_holdsToMeet cy aN qN aH qH qD qG qW aH0 aH aH0 vN_11 vH vD vD_now vH_kinds vG vW vW_who vW_cells vH_sorts vH_next vW_inFront vH_sizes vH_width vH_doorOne vH_doorTwo)) (kRunV (As := [.int 1]) (rest := []) ⟨hx, hb, hml, hown, ht0⟩ (kX8_refuse l D cy _ aN qN aH vN (1 : Int32) r11 vN_11 hc11 _ rfl) (cwV 1 ht0 (gV wd504 wd505 wd506 wd57 wd507) rfl rfl rfl (by decide +kernel) ⟨Nat.le_of_ble_eq_true rfl, Nat.le_of_ble_eq_true rfl⟩) hK hN hP hD [0] rfl (by decide) 0 7 rfl rfl rfl hl.1 rfl (Nat.le_of_ble_eq_true rfl) dX8_holdsToMeet_11 ⟨Nat.zero_le _, Nat.zero_le _⟩) hP hD hS hA [0] [1, 2, 3, 4, 5, 6, 7, 8, 9, 10, 11, 12, 13, 14, 15] rfl rfl (by decide) (by decide) [15, 0, 1, 2, 3, 4, 5, 6, 7, 8, 9, 10, 11, 12, 13, 14] (by decide) rfl rfl (fun H locs hP hD hS => ?_)
    cases hok
    subst hQe; exact W.iret hx hb hr (fun t ht hW => ⟨⟨_, (), rfl, rfl, by rw [ht]; exact hP, va_K.moved hW.alike hK, hD⟩, hS.F ht⟩) hS.2.2 dX8_holdsToMeet_14
def wsX8_whyNoWants : List Cond := .code yX8_whyNoWants cX8_whyNoWants 2 (some .int) :: W0
abbrev wX8_whyNoWants (cy : Nat → ClassId) (aN : Nat) (qN : Nat → Nat) (aH : Nat) (qH : Nat → Nat) (fvN_5 : Nat) (vN : Nat → Int32) (vH : Nat → Int32) : va_W := [(aN, oX8 vN qN fvN_5), (aH, oX4 vH qH)]
set_option maxHeartbeats 4000000 in
set_option maxRecDepth 100000 in
theorem kX8_whyNoWants (l : Launch) (D : va_G) (cy : Nat → ClassId) (sz : Nat) (aN : Nat) (qN : Nat → Nat) (aH : Nat) (qH : Nat → Nat) (vN : Nat → Int32) (vH : Nat → Int32) (x1 : Int32) (zr : Int32) (hok : fX8_whyNoWants vN vH x1 = some zr) (A : Nat → Prop) (hAe : va_A (wX8_whyNoWants cy aN qN aH qH aH vN vH) sz = A) : Met l yX8_whyNoWants wsX8_whyNoWants ({ frames := 1, cells := 0, slots := 0, locals := 20 } : Room) (kPre D cy [.ref aN, .int x1] (wX8_whyNoWants cy aN qN aH qH aH vN vH) sz) (kQi D cy zr A (wX8_whyNoWants cy aN qN aH qH aH vN vH)) 0 0 A := by
  refine Met.ofW (cc := cX8_whyNoWants) (maxL := 2) (ret := (some .int)) (by decide) rfl ?_
  intro p e s m args below meth c s₁ B hml hv
  obtain ⟨rfl, hsz, hP, hK, hD0, hN⟩ := hv
  have hx := B.exec
  have hb := B.bytes
  have hr := B.returns
  have ht0 : ∀ w ∈ W0, w.before _ s = true := fun w h => atoms_spec (ws := wsX8_whyNoWants) B.pre w (List.mem_cons_of_mem _ h)
  have hown : s.vm.findClass RX8 = some m.cls := findClass_of_methodNamed B.named
  have hlocks := B.notSynchronized
  subst hsz
  have hD : va_D A (wX8_whyNoWants cy aN qN aH qH aH vN vH) := by rw [← hAe]; exact hD0.self
  have hA : ∀ q : Nat, s.heap.size ≤ q → A q := fun q h => by rw [← hAe]; exact Or.inr h
  have hS : va_S A s.heap s.heap [] := va_S.rf
  have hl := lv_entry ([.ref aN, .int x1]) (n := 2) (Nat.le_of_ble_eq_true rfl)
  rw [lg_entry_eq]
  generalize (lg_sl ([.ref aN, .int x1]) ++ List.replicate (2 - (lg_sl ([.ref aN, .int x1])).length) Slot.unset).toArray = ls at hl ⊢
  have hl : lv_has ls 2 [(0, .ref aN), (1, .int x1)] := hl
  generalize hQe : MQ below (kQi D cy zr A (wX8_whyNoWants cy aN qN aH qH aH vN vH)) ([.ref aN, .int x1] : List Value).toArray s 0 0 A = Q
  have J27 : ∀ (t0_27 : Int32), ∀ (H : Heap) (locs : List Loc) (ls : Array Slot), va_P D vwCl (wX8_whyNoWants cy aN qN aH qH aH vN vH) H → va_D A (wX8_whyNoWants cy aN qN aH qH aH vN vH) → va_S A s.heap H locs → lv_has ls 2 [] → fX8_whyNoWants_J27 t0_27 = some zr → W p l e ({ frames := 1, cells := 0, slots := 0, locals := 20 } : Room) s m ([.ref aN, .int x1] : List Value).toArray below meth c H locs 0 0 Q (F0 m 27 ls [.int t0_27]) := by
    intro t0_27 H locs ls hP hD hS hl hok
    unfold fX8_whyNoWants_J27 at hok
    cases hok
    subst hQe; exact W.iret hx hb hr (fun t ht hW => ⟨⟨_, (), rfl, rfl, by rw [ht]; exact hP, va_K.moved hW.alike hK, hD⟩, hS.F ht⟩) hS.2.2 dX8_whyNoWants_27
  have J22 : ∀ (H : Heap) (locs : List Loc) (ls : Array Slot), va_P D vwCl (wX8_whyNoWants cy aN qN aH qH aH vN vH) H → va_D A (wX8_whyNoWants cy aN qN aH qH aH vN vH) → va_S A s.heap H locs → lv_has ls 2 [] → fX8_whyNoWants_J22 = some zr → W p l e ({ frames := 1, cells := 0, slots := 0, locals := 20 } : Room) s m ([.ref aN, .int x1] : List Value).toArray below meth c H locs 0 0 Q (F0 m 22 ls []) := by
    intro  H locs ls hP hD hS hl hok
    unfold fX8_whyNoWants_J22 at hok
    refine lv_iconst (v := 2) hx hb dX8_whyNoWants_22 (by decide) ?_
    refine lv_goto (tgt := 27) hx hb dX8_whyNoWants_23 (by decide) ?_
    exact J27 (2 : Int32) H locs ls hP hD hS (lv_sub hl [] rfl) hok
  unfold fX8_whyNoWants at hok
  obtain ⟨H, hH⟩ : ∃ H, H = s.heap := ⟨_, rfl⟩
  obtain ⟨locs, hlc⟩ : ∃ x : List Loc, x = [] := ⟨_, rfl⟩
  have hP : va_P D vwCl (wX8_whyNoWants cy aN qN aH qH aH vN vH) H := by rw [hH]; exact hP
  have hS : va_S A s.heap H locs := by rw [hH, hlc]; exact hS
  rw [show W p l e _ s m _ below meth c s.heap [] = W p l e _ s m _ below meth c H locs from by rw [hH, hlc]]
  refine lv_aload_n hx hb dX8_whyNoWants_0 rfl (lv_at hl 0 rfl) ?_
  refine va_get (D := D) (ci := 7) (v := .ref aH) (C := RX8) (T := TX8) (N := 9) hx hb ht0 niX8 hown hK hP 0 rfl rfl 5 (by decide) (ht0 _ wd522) (fun _ h9 => h9) rfl dX8_whyNoWants_1 ?_
  obtain ⟨r4, hc4, hok⟩ := k_bind hok
  refine kCi (wc := (wX4_stands cy aH qH vH)) (wc2 := (wX4_stands cy aH qH vH)) (wr := [(aN, oX8 vN qN aH)]) (ws2 := (wX8_whyNoWants cy aN qN aH qH aH vN vH)) (kRunV (As := []) (rest := []) ⟨hx, hb, hml, hown, ht0⟩ (kX4_stands l D cy _ aH qH vH r4 hc4 _ rfl) (cwV 0 ht0 (gV wd577 wd462 wd463 wd9 wd464) rfl rfl rfl (by decide +kernel) ⟨Nat.le_of_ble_eq_true rfl, Nat.le_of_ble_eq_true rfl⟩) hK hN hP hD [1] rfl (by decide) 1 3 rfl rfl rfl hl.1 rfl (Nat.le_of_ble_eq_true rfl) dX8_whyNoWants_4 ⟨Nat.zero_le _, Nat.zero_le _⟩) hP hD hS hA [1] [0] rfl rfl (by decide) (by decide) [0, 1] (by decide) rfl rfl (fun H locs hP hD hS => ?_)
  refine lv_if_ne (tgt := 12) hx hb dX8_whyNoWants_7 (by decide) (fun c7 => ?_) (fun c7 => ?_)
  · have hok := k_neg c7 hok
    refine lv_iload_n hx hb dX8_whyNoWants_12 rfl (lv_at hl 1 rfl) ?_
    refine lv_if_lt (tgt := 22) hx hb dX8_whyNoWants_13 (by decide) (fun c13 => ?_) (fun c13 => ?_)
    · have hok := k_pos c13 hok
      exact J22  H locs ls hP hD hS (lv_sub hl [] rfl) hok
    · have hok := k_neg c13 hok
      refine lv_iload_n hx hb dX8_whyNoWants_16 rfl (lv_at hl 1 rfl) ?_
      refine lv_bipush (v := 60) hx hb dX8_whyNoWants_17 (by decide) ?_
      refine lv_icmp_le (tgt := 26) hx hb dX8_whyNoWants_19 (by decide) (fun c19 => ?_) (fun c19 => ?_)
      · have hok := k_pos c19 hok
        refine lv_iconst (v := 0) hx hb dX8_whyNoWants_26 (by decide) ?_
        exact J27 (0 : Int32) H locs ls hP hD hS (lv_sub hl [] rfl) hok
      · have hok := k_neg c19 hok
        exact J22  H locs ls hP hD hS (lv_sub hl [] rfl) hok
  · have hok := k_pos c7 hok
    refine lv_iconst (v := 1) hx hb dX8_whyNoWants_10 (by decide) ?_
    cases hok
    subst hQe; exact W.iret hx hb hr (fun t ht hW => ⟨⟨_, (), rfl, rfl, by rw [ht]; exact hP, va_K.moved hW.alike hK, hD⟩, hS.F ht⟩) hS.2.2 dX8_whyNoWants_11
