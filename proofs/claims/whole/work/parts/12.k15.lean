def wsX8_night : List Cond := .code yX8_night cX8_night 2 (some .int) :: W0
abbrev wX8_night (cy : Nat → ClassId) (aN : Nat) (qN : Nat → Nat) (aH : Nat) (qH : Nat → Nat) (qD : Nat → Nat) (pD_past : Nat → Nat) (qW : Nat → Nat) (aH0 : Nat) (fvN_5 : Nat) (fvW_4 : Nat) (vN : Nat → Int32) (vH : Nat → Int32) (vD : Nat → Int32) (vD_now : Nat → Int32) (vD_past : Nat → Nat → Int32) (vW : Nat → Int32) (vW_who : Nat → Int32) (vH_kinds : Nat → Int32) (vW_cells : Nat → Int32) (vH_sorts : Nat → Int32) (vH_next : Nat → Int32) (vW_inFront : Nat → Int32) (vH_sizes : Nat → Int32) (vH_width : Nat → Int32) : va_W := [(aN, oX8 vN qN fvN_5), (aH, oX4 vH qH), (qN 1, oX1 vD qD), (qD 0, rI cy 9 vD_now), (qD 1, rR cy 16 (fun j => some (pD_past j))), (pD_past 0, rI cy 9 (vD_past 0)), (pD_past 1, rI cy 9 (vD_past 1)), (pD_past 2, rI cy 9 (vD_past 2)), (pD_past 3, rI cy 9 (vD_past 3)), (pD_past 4, rI cy 9 (vD_past 4)), (pD_past 5, rI cy 9 (vD_past 5)), (pD_past 6, rI cy 9 (vD_past 6)), (pD_past 7, rI cy 9 (vD_past 7)), (pD_past 8, rI cy 9 (vD_past 8)), (pD_past 9, rI cy 9 (vD_past 9)), (pD_past 10, rI cy 9 (vD_past 10)), (pD_past 11, rI cy 9 (vD_past 11)), (pD_past 12, rI cy 9 (vD_past 12)), (pD_past 13, rI cy 9 (vD_past 13)), (pD_past 14, rI cy 9 (vD_past 14)), (pD_past 15, rI cy 9 (vD_past 15)), (qN 2, oX6 vW qW fvW_4), (qW 1, rI cy 36 vW_who), (qH 14, rI cy 7 vH_kinds), (qW 0, rI cy 7 vW_cells), (qH 8, rI cy 4 vH_sorts), (qH 10, rI cy 36 vH_next), (qW 2, rI cy 7 vW_inFront), (qH 15, rI cy 7 vH_sizes), (qH 11, rI cy 36 vH_width)]
set_option maxHeartbeats 4000000 in
set_option maxRecDepth 100000 in
theorem kX8_night (l : Launch) (D : va_G) (cy : Nat → ClassId) (sz : Nat) (aN : Nat) (qN : Nat → Nat) (aH : Nat) (qH : Nat → Nat) (qD : Nat → Nat) (pD_past : Nat → Nat) (qW : Nat → Nat) (aH0 : Nat) (vN : Nat → Int32) (vH : Nat → Int32) (vD : Nat → Int32) (vD_now : Nat → Int32) (vD_past : Nat → Nat → Int32) (vW : Nat → Int32) (vW_who : Nat → Int32) (vH_kinds : Nat → Int32) (vW_cells : Nat → Int32) (vH_sorts : Nat → Int32) (vH_next : Nat → Int32) (vW_inFront : Nat → Int32) (vH_sizes : Nat → Int32) (vH_width : Nat → Int32) (zr : Int32) (z_vN : Nat → Int32) (z_vD : Nat → Int32) (z_vD_now : Nat → Int32) (z_vD_past : Nat → Nat → Int32) (z_vW : Nat → Int32) (z_vW_who : Nat → Int32) (z_vW_cells : Nat → Int32) (z_vW_inFront : Nat → Int32) (z_aH0 : Nat) (hok : fX8_night aH aH0 vN vH vD vD_now vD_past vW vW_who vH_kinds vW_cells vH_sorts vH_next vW_inFront vH_sizes vH_width = some (zr, z_vN, z_vD, z_vD_now, z_vD_past, z_vW, z_vW_who, z_vW_cells, z_vW_inFront, z_aH0)) (A : Nat → Prop) (hAe : va_A (wX8_night cy aN qN aH qH qD pD_past qW aH0 aH aH0 vN vH vD vD_now vD_past vW vW_who vH_kinds vW_cells vH_sorts vH_next vW_inFront vH_sizes vH_width) sz = A) : Met l yX8_night wsX8_night ({ frames := 3, cells := 0, slots := 0, locals := 73 } : Room) (kPre D cy [.ref aN] (wX8_night cy aN qN aH qH qD pD_past qW aH0 aH aH0 vN vH vD vD_now vD_past vW vW_who vH_kinds vW_cells vH_sorts vH_next vW_inFront vH_sizes vH_width) sz) (kQi D cy zr A (wX8_night cy aN qN aH qH qD pD_past qW aH0 aH z_aH0 z_vN vH z_vD z_vD_now z_vD_past z_vW z_vW_who vH_kinds z_vW_cells vH_sorts vH_next z_vW_inFront vH_sizes vH_width)) 0 0 A := by
  refine Met.ofW (cc := cX8_night) (maxL := 2) (ret := (some .int)) (by decide) rfl ?_
  intro p e s m args below meth c s₁ B hml hv
  obtain ⟨rfl, hsz, hP, hK, hD0, hN⟩ := hv
  have hx := B.exec
  have hb := B.bytes
  have hr := B.returns
  have ht0 : ∀ w ∈ W0, w.before _ s = true := fun w h => atoms_spec (ws := wsX8_night) B.pre w (List.mem_cons_of_mem _ h)
  have hown : s.vm.findClass RX8 = some m.cls := findClass_of_methodNamed B.named
  have hlocks := B.notSynchronized
  subst hsz
  have hD : va_D A (wX8_night cy aN qN aH qH qD pD_past qW aH0 aH aH0 vN vH vD vD_now vD_past vW vW_who vH_kinds vW_cells vH_sorts vH_next vW_inFront vH_sizes vH_width) := by rw [← hAe]; exact hD0.self
  have hA : ∀ q : Nat, s.heap.size ≤ q → A q := fun q h => by rw [← hAe]; exact Or.inr h
  have hS : va_S A s.heap s.heap [] := va_S.rf
  have hl := lv_entry ([.ref aN]) (n := 2) (Nat.le_of_ble_eq_true rfl)
  rw [lg_entry_eq]
  generalize (lg_sl ([.ref aN]) ++ List.replicate (2 - (lg_sl ([.ref aN])).length) Slot.unset).toArray = ls at hl ⊢
  have hl : lv_has ls 2 [(0, .ref aN)] := hl
  generalize hQe : MQ below (kQi D cy zr A (wX8_night cy aN qN aH qH qD pD_past qW aH0 aH z_aH0 z_vN vH z_vD z_vD_now z_vD_past z_vW z_vW_who vH_kinds z_vW_cells vH_sorts vH_next z_vW_inFront vH_sizes vH_width)) ([.ref aN] : List Value).toArray s 0 0 A = Q
  have L68 : ∀ (fuel : Nat) (y1_68 : Int32) (vD_now_68 : Nat → Int32) (vD_past_68 : Nat → Nat → Int32) (vW_cells_68 : Nat → Int32) (vW_inFront_68 : Nat → Int32) (vW_who_68 : Nat → Int32) (vD_68 : Nat → Int32) (vW_68 : Nat → Int32), ∀ (H : Heap) (locs : List Loc) (ls : Array Slot), va_P D vwCl (wX8_night cy aN qN aH qH qD pD_past qW aH0 aH aH vN vH vD_68 vD_now_68 vD_past_68 vW_68 vW_who_68 vH_kinds vW_cells_68 vH_sorts vH_next vW_inFront_68 vH_sizes vH_width) H → va_D A (wX8_night cy aN qN aH qH qD pD_past qW aH0 aH aH vN vH vD_68 vD_now_68 vD_past_68 vW_68 vW_who_68 vH_kinds vW_cells_68 vH_sorts vH_next vW_inFront_68 vH_sizes vH_width) → va_S A s.heap H locs → lv_has ls 2 [(0, .ref aN), (1, .int y1_68)] → lp (fX8_night_B68 aH vN vH) fuel (y1_68, vD_now_68, vD_past_68, vW_cells_68, vW_inFront_68, vW_who_68, vD_68, vW_68) = some (zr, z_vN, z_vD, z_vD_now, z_vD_past, z_vW, z_vW_who, z_vW_cells, z_vW_inFront, z_aH0) → W p l e ({ frames := 3, cells := 0, slots := 0, locals := 73 } : Room) s m ([.ref aN] : List Value).toArray below meth c H locs 0 0 Q (F0 m 68 ls []) := by
    intro fuel
    induction fuel with
    | zero => intro y1_68 vD_now_68 vD_past_68 vW_cells_68 vW_inFront_68 vW_who_68 vD_68 vW_68 H locs ls hP hD hS hl hok; exact (lp_0 hok).elim
    | succ fuel ih68 =>
      intro y1_68 vD_now_68 vD_past_68 vW_cells_68 vW_inFront_68 vW_who_68 vD_68 vW_68 H locs ls hP hD hS hl hok
      obtain ⟨y68, hok, hL68, hR68⟩ := lp_step hok
      unfold fX8_night_B68 at hok
      try dsimp only at hok
      refine lv_iload_n hx hb dX8_night_68 rfl (lv_at hl 1 rfl) ?_
      refine lv_aload_n hx hb dX8_night_69 rfl (lv_at hl 0 rfl) ?_
      refine va_get (D := D) (ci := 7) (v := .ref aH) (C := RX8) (T := TX8) (N := 9) hx hb ht0 niX8 hown hK hP 0 rfl rfl 5 (by decide) (ht0 _ wd522) (fun _ h9 => h9) rfl dX8_night_70 ?_
      refine va_get (D := D) (ci := 3) (v := .int (vH 5)) (C := RX4) (T := TX4) (N := 20) hx hb ht0 niX4 hown hK hP 1 rfl rfl 5 (by decide) (ht0 _ wd543) (fun _ h9 => h9) rfl dX8_night_73 ?_
      refine lv_icmp_ge (tgt := 101) hx hb dX8_night_76 (by decide) (fun c76 => ?_) (fun c76 => ?_)
      · have hok := k_pos c76 hok
        obtain ⟨e68, hok, he68⟩ := ex_some hok
        have hok := hok.trans (congrArg some (hL68 _ he68))
        refine lv_aload_n hx hb dX8_night_101 rfl (lv_at hl 0 rfl) ?_
        refine va_get (D := D) (ci := 7) (v := .ref (qN 1)) (C := RX8) (T := TX8) (N := 9) hx hb ht0 niX8 hown hK hP 0 rfl rfl 1 (by decide) (ht0 _ wd527) (fun _ h9 => h9) rfl dX8_night_102 ?_
        obtain ⟨vD_now_105, hc105, hok⟩ := k_bind hok
        refine kCv (wc := (wX1_nextNight cy (qN 1) qD vD_68 vD_now_68)) (wc2 := (wX1_nextNight cy (qN 1) qD vD_68 vD_now_105)) (wr := [(aN, oX8 vN qN aH), (aH, oX4 vH qH), (qD 1, rR cy 16 (fun j => some (pD_past j))), (pD_past 0, rI cy 9 (vD_past_68 0)), (pD_past 1, rI cy 9 (vD_past_68 1)), (pD_past 2, rI cy 9 (vD_past_68 2)), (pD_past 3, rI cy 9 (vD_past_68 3)), (pD_past 4, rI cy 9 (vD_past_68 4)), (pD_past 5, rI cy 9 (vD_past_68 5)), (pD_past 6, rI cy 9 (vD_past_68 6)), (pD_past 7, rI cy 9 (vD_past_68 7)), (pD_past 8, rI cy 9 (vD_past_68 8)), (pD_past 9, rI cy 9 (vD_past_68 9)), (pD_past 10, rI cy 9 (vD_past_68 10)), (pD_past 11, rI cy 9 (vD_past_68 11)), (pD_past 12, rI cy 9 (vD_past_68 12)), (pD_past 13, rI cy 9 (vD_past_68 13)), (pD_past 14, rI cy 9 (vD_past_68 14)), (pD_past 15, rI cy 9 (vD_past_68 15)), (qN 2, oX6 vW_68 qW aH), (qW 1, rI cy 36 vW_who_68), (qH 14, rI cy 7 vH_kinds), (qW 0, rI cy 7 vW_cells_68), (qH 8, rI cy 4 vH_sorts), (qH 10, rI cy 36 vH_next), (qW 2, rI cy 7 vW_inFront_68), (qH 15, rI cy 7 vH_sizes), (qH 11, rI cy 36 vH_width)]) (ws2 := (wX8_night cy aN qN aH qH qD pD_past qW aH0 aH aH vN vH vD_68 vD_now_105 vD_past_68 vW_68 vW_who_68 vH_kinds vW_cells_68 vH_sorts vH_next vW_inFront_68 vH_sizes vH_width)) (kRunV (As := []) (rest := []) ⟨hx, hb, hml, hown, ht0⟩ (kX1_nextNight l D cy _ (qN 1) qD vD_68 vD_now_68 vD_now_105 hc105 _ rfl) (cwV 0 ht0 (gV wd700 wd701 wd702 wd74 wd703) rfl rfl rfl (by decide +kernel) ⟨Nat.le_of_ble_eq_true rfl, Nat.le_of_ble_eq_true rfl⟩) hK hN hP hD [2, 3] rfl (by decide) 2 1 rfl rfl rfl hl.1 rfl (Nat.le_of_ble_eq_true rfl) dX8_night_105 ⟨Nat.zero_le _, Nat.zero_le _⟩) hP hD hS hA [2, 3] [0, 1, 4, 5, 6, 7, 8, 9, 10, 11, 12, 13, 14, 15, 16, 17, 18, 19, 20, 21, 22, 23, 24, 25, 26, 27, 28, 29] rfl rfl (by decide) (by decide) [0, 1, 28, 29, 2, 3, 4, 5, 6, 7, 8, 9, 10, 11, 12, 13, 14, 15, 16, 17, 18, 19, 20, 21, 22, 23, 24, 25, 26, 27] (by decide) rfl rfl (fun H locs hP hD hS => ?_)
        refine lv_aload_n hx hb dX8_night_108 rfl (lv_at hl 0 rfl) ?_
        refine lv_aload_n hx hb dX8_night_109 rfl (lv_at hl 0 rfl) ?_
        refine va_get (D := D) (ci := 7) (v := .ref (qN 2)) (C := RX8) (T := TX8) (N := 9) hx hb ht0 niX8 hown hK hP 0 rfl rfl 2 (by decide) (ht0 _ wd578) (fun _ h9 => h9) rfl dX8_night_110 ?_
        obtain ⟨r113, hc113, hok⟩ := k_bind hok
        refine kCi (wc := (wX6_went cy (qN 2) qW aH aH vW_68)) (wc2 := (wX6_went cy (qN 2) qW aH aH vW_68)) (wr := [(aN, oX8 vN qN aH), (aH, oX4 vH qH), (qN 1, oX1 vD_68 qD), (qD 0, rI cy 9 vD_now_105), (qD 1, rR cy 16 (fun j => some (pD_past j))), (pD_past 0, rI cy 9 (vD_past_68 0)), (pD_past 1, rI cy 9 (vD_past_68 1)), (pD_past 2, rI cy 9 (vD_past_68 2)), (pD_past 3, rI cy 9 (vD_past_68 3)), (pD_past 4, rI cy 9 (vD_past_68 4)), (pD_past 5, rI cy 9 (vD_past_68 5)), (pD_past 6, rI cy 9 (vD_past_68 6)), (pD_past 7, rI cy 9 (vD_past_68 7)), (pD_past 8, rI cy 9 (vD_past_68 8)), (pD_past 9, rI cy 9 (vD_past_68 9)), (pD_past 10, rI cy 9 (vD_past_68 10)), (pD_past 11, rI cy 9 (vD_past_68 11)), (pD_past 12, rI cy 9 (vD_past_68 12)), (pD_past 13, rI cy 9 (vD_past_68 13)), (pD_past 14, rI cy 9 (vD_past_68 14)), (pD_past 15, rI cy 9 (vD_past_68 15)), (qW 1, rI cy 36 vW_who_68), (qH 14, rI cy 7 vH_kinds), (qW 0, rI cy 7 vW_cells_68), (qH 8, rI cy 4 vH_sorts), (qH 10, rI cy 36 vH_next), (qW 2, rI cy 7 vW_inFront_68), (qH 15, rI cy 7 vH_sizes), (qH 11, rI cy 36 vH_width)]) (ws2 := (wX8_night cy aN qN aH qH qD pD_past qW aH0 aH aH vN vH vD_68 vD_now_105 vD_past_68 vW_68 vW_who_68 vH_kinds vW_cells_68 vH_sorts vH_next vW_inFront_68 vH_sizes vH_width)) (kRunV (As := []) (rest := [.ref aN]) ⟨hx, hb, hml, hown, ht0⟩ (kX6_went l D cy _ (qN 2) qW aH vW_68 r113 hc113 _ rfl) (cwV 0 ht0 (gV wd581 wd582 wd583 wd114 wd584) rfl rfl rfl (by decide +kernel) ⟨Nat.le_of_ble_eq_true rfl, Nat.le_of_ble_eq_true rfl⟩) hK hN hP hD [21] rfl (by decide) 21 5 rfl rfl rfl hl.1 rfl (Nat.le_of_ble_eq_true rfl) dX8_night_113 ⟨Nat.zero_le _, Nat.zero_le _⟩) hP hD hS hA [21] [0, 1, 2, 3, 4, 5, 6, 7, 8, 9, 10, 11, 12, 13, 14, 15, 16, 17, 18, 19, 20, 22, 23, 24, 25, 26, 27, 28, 29] rfl rfl (by decide) (by decide) [0, 1, 2, 3, 4, 5, 6, 7, 8, 9, 10, 11, 12, 13, 14, 15, 16, 17, 18, 19, 20, 29, 21, 22, 23, 24, 25, 26, 27, 28] (by decide) rfl rfl (fun H locs hP hD hS => ?_)
        obtain ⟨⟨r116, vN_116⟩, hc116, hok⟩ := k_bind hok
        try dsimp only at hok
        refine kCi (wc := (wX8_answer cy aN qN aH aH vN)) (wc2 := (wX8_answer cy aN qN aH aH vN_116)) (wr := [(aH, oX4 vH qH), (qN 1, oX1 vD_68 qD), (qD 0, rI cy 9 vD_now_105), (qD 1, rR cy 16 (fun j => some (pD_past j))), (pD_past 0, rI cy 9 (vD_past_68 0)), (pD_past 1, rI cy 9 (vD_past_68 1)), (pD_past 2, rI cy 9 (vD_past_68 2)), (pD_past 3, rI cy 9 (vD_past_68 3)), (pD_past 4, rI cy 9 (vD_past_68 4)), (pD_past 5, rI cy 9 (vD_past_68 5)), (pD_past 6, rI cy 9 (vD_past_68 6)), (pD_past 7, rI cy 9 (vD_past_68 7)), (pD_past 8, rI cy 9 (vD_past_68 8)), (pD_past 9, rI cy 9 (vD_past_68 9)), (pD_past 10, rI cy 9 (vD_past_68 10)), (pD_past 11, rI cy 9 (vD_past_68 11)), (pD_past 12, rI cy 9 (vD_past_68 12)), (pD_past 13, rI cy 9 (vD_past_68 13)), (pD_past 14, rI cy 9 (vD_past_68 14)), (pD_past 15, rI cy 9 (vD_past_68 15)), (qN 2, oX6 vW_68 qW aH), (qW 1, rI cy 36 vW_who_68), (qH 14, rI cy 7 vH_kinds), (qW 0, rI cy 7 vW_cells_68), (qH 8, rI cy 4 vH_sorts), (qH 10, rI cy 36 vH_next), (qW 2, rI cy 7 vW_inFront_68), (qH 15, rI cy 7 vH_sizes), (qH 11, rI cy 36 vH_width)]) (ws2 := (wX8_night cy aN qN aH qH qD pD_past qW aH0 aH aH vN_116 vH vD_68 vD_now_105 vD_past_68 vW_68 vW_who_68 vH_kinds vW_cells_68 vH_sorts vH_next vW_inFront_68 vH_sizes vH_width)) (kRunV (As := [.int r113]) (rest := []) ⟨hx, hb, hml, hown, ht0⟩ (kX8_answer l D cy _ aN qN aH vN r113 r116 vN_116 hc116 _ rfl) (cwV 1 ht0 (gV wd538 wd539 wd540 wd57 wd541) rfl rfl rfl (by decide +kernel) ⟨Nat.le_of_ble_eq_true rfl, Nat.le_of_ble_eq_true rfl⟩) hK hN hP hD [0] rfl (by decide) 0 7 rfl rfl rfl hl.1 rfl (Nat.le_of_ble_eq_true rfl) dX8_night_116 ⟨Nat.zero_le _, Nat.zero_le _⟩) hP hD hS hA [0] [1, 2, 3, 4, 5, 6, 7, 8, 9, 10, 11, 12, 13, 14, 15, 16, 17, 18, 19, 20, 21, 22, 23, 24, 25, 26, 27, 28, 29] rfl rfl (by decide) (by decide) [29, 0, 1, 2, 3, 4, 5, 6, 7, 8, 9, 10, 11, 12, 13, 14, 15, 16, 17, 18, 19, 20, 21, 22, 23, 24, 25, 26, 27, 28] (by decide) rfl rfl (fun H locs hP hD hS => ?_)
        cases hok
        subst hQe; exact W.iret hx hb hr (fun t ht hW => ⟨⟨_, (), rfl, rfl, by rw [ht]; exact hP, va_K.moved hW.alike hK, hD⟩, hS.F ht⟩) hS.2.2 dX8_night_119
      · have hok := k_neg c76 hok
        refine lv_aload_n hx hb dX8_night_79 rfl (lv_at hl 0 rfl) ?_
        refine va_get (D := D) (ci := 7) (v := .ref (qN 1)) (C := RX8) (T := TX8) (N := 9) hx hb ht0 niX8 hown hK hP 0 rfl rfl 1 (by decide) (ht0 _ wd527) (fun _ h9 => h9) rfl dX8_night_80 ?_
        refine lv_iload_n hx hb dX8_night_83 rfl (lv_at hl 1 rfl) ?_
        refine lv_aload_n hx hb dX8_night_84 rfl (lv_at hl 0 rfl) ?_
        refine va_get (D := D) (ci := 7) (v := .ref (qN 2)) (C := RX8) (T := TX8) (N := 9) hx hb ht0 niX8 hown hK hP 0 rfl rfl 2 (by decide) (ht0 _ wd578) (fun _ h9 => h9) rfl dX8_night_85 ?_
        refine lv_iload_n hx hb dX8_night_88 rfl (lv_at hl 1 rfl) ?_
        obtain ⟨r89, hc89, hok⟩ := k_bind hok
        refine kCi (wc := (wX6_cellOf cy (qN 2) qW aH aH vW_68 vW_cells_68)) (wc2 := (wX6_cellOf cy (qN 2) qW aH aH vW_68 vW_cells_68)) (wr := [(aN, oX8 vN qN aH), (aH, oX4 vH qH), (qN 1, oX1 vD_68 qD), (qD 0, rI cy 9 vD_now_68), (qD 1, rR cy 16 (fun j => some (pD_past j))), (pD_past 0, rI cy 9 (vD_past_68 0)), (pD_past 1, rI cy 9 (vD_past_68 1)), (pD_past 2, rI cy 9 (vD_past_68 2)), (pD_past 3, rI cy 9 (vD_past_68 3)), (pD_past 4, rI cy 9 (vD_past_68 4)), (pD_past 5, rI cy 9 (vD_past_68 5)), (pD_past 6, rI cy 9 (vD_past_68 6)), (pD_past 7, rI cy 9 (vD_past_68 7)), (pD_past 8, rI cy 9 (vD_past_68 8)), (pD_past 9, rI cy 9 (vD_past_68 9)), (pD_past 10, rI cy 9 (vD_past_68 10)), (pD_past 11, rI cy 9 (vD_past_68 11)), (pD_past 12, rI cy 9 (vD_past_68 12)), (pD_past 13, rI cy 9 (vD_past_68 13)), (pD_past 14, rI cy 9 (vD_past_68 14)), (pD_past 15, rI cy 9 (vD_past_68 15)), (qW 1, rI cy 36 vW_who_68), (qH 14, rI cy 7 vH_kinds), (qH 8, rI cy 4 vH_sorts), (qH 10, rI cy 36 vH_next), (qW 2, rI cy 7 vW_inFront_68), (qH 15, rI cy 7 vH_sizes), (qH 11, rI cy 36 vH_width)]) (ws2 := (wX8_night cy aN qN aH qH qD pD_past qW aH0 aH aH vN vH vD_68 vD_now_68 vD_past_68 vW_68 vW_who_68 vH_kinds vW_cells_68 vH_sorts vH_next vW_inFront_68 vH_sizes vH_width)) (kRunV (As := [.int y1_68]) (rest := [.int y1_68, .ref (qN 1)]) ⟨hx, hb, hml, hown, ht0⟩ (kX6_cellOf l D cy _ (qN 2) qW aH vW_68 vW_cells_68 y1_68 r89 hc89 _ rfl) (cwV 1 ht0 (gV wd594 wd163 wd164 wd114 wd165) rfl rfl rfl (by decide +kernel) ⟨Nat.le_of_ble_eq_true rfl, Nat.le_of_ble_eq_true rfl⟩) hK hN hP hD [21, 24] rfl (by decide) 21 5 rfl rfl rfl hl.1 rfl (Nat.le_of_ble_eq_true rfl) dX8_night_89 ⟨Nat.zero_le _, Nat.zero_le _⟩) hP hD hS hA [21, 24] [0, 1, 2, 3, 4, 5, 6, 7, 8, 9, 10, 11, 12, 13, 14, 15, 16, 17, 18, 19, 20, 22, 23, 25, 26, 27, 28, 29] rfl rfl (by decide) (by decide) [0, 1, 2, 3, 4, 5, 6, 7, 8, 9, 10, 11, 12, 13, 14, 15, 16, 17, 18, 19, 20, 28, 21, 22, 29, 23, 24, 25, 26, 27] (by decide) rfl rfl (fun H locs hP hD hS => ?_)
        obtain ⟨vD_now_92, hc92, hok⟩ := k_bind hok
        refine kCv (wc := (wX1_move cy (qN 1) qD vD_68 vD_now_68)) (wc2 := (wX1_move cy (qN 1) qD vD_68 vD_now_92)) (wr := [(aN, oX8 vN qN aH), (aH, oX4 vH qH), (qD 1, rR cy 16 (fun j => some (pD_past j))), (pD_past 0, rI cy 9 (vD_past_68 0)), (pD_past 1, rI cy 9 (vD_past_68 1)), (pD_past 2, rI cy 9 (vD_past_68 2)), (pD_past 3, rI cy 9 (vD_past_68 3)), (pD_past 4, rI cy 9 (vD_past_68 4)), (pD_past 5, rI cy 9 (vD_past_68 5)), (pD_past 6, rI cy 9 (vD_past_68 6)), (pD_past 7, rI cy 9 (vD_past_68 7)), (pD_past 8, rI cy 9 (vD_past_68 8)), (pD_past 9, rI cy 9 (vD_past_68 9)), (pD_past 10, rI cy 9 (vD_past_68 10)), (pD_past 11, rI cy 9 (vD_past_68 11)), (pD_past 12, rI cy 9 (vD_past_68 12)), (pD_past 13, rI cy 9 (vD_past_68 13)), (pD_past 14, rI cy 9 (vD_past_68 14)), (pD_past 15, rI cy 9 (vD_past_68 15)), (qN 2, oX6 vW_68 qW aH), (qW 1, rI cy 36 vW_who_68), (qH 14, rI cy 7 vH_kinds), (qW 0, rI cy 7 vW_cells_68), (qH 8, rI cy 4 vH_sorts), (qH 10, rI cy 36 vH_next), (qW 2, rI cy 7 vW_inFront_68), (qH 15, rI cy 7 vH_sizes), (qH 11, rI cy 36 vH_width)]) (ws2 := (wX8_night cy aN qN aH qH qD pD_past qW aH0 aH aH vN vH vD_68 vD_now_92 vD_past_68 vW_68 vW_who_68 vH_kinds vW_cells_68 vH_sorts vH_next vW_inFront_68 vH_sizes vH_width)) (kRunV (As := [.int y1_68, .int r89]) (rest := []) ⟨hx, hb, hml, hown, ht0⟩ (kX1_move l D cy _ (qN 1) qD vD_68 vD_now_68 y1_68 r89 vD_now_92 hc92 _ rfl) (cwV 2 ht0 (gV wd696 wd697 wd698 wd74 wd699) rfl rfl rfl (by decide +kernel) ⟨Nat.le_of_ble_eq_true rfl, Nat.le_of_ble_eq_true rfl⟩) hK hN hP hD [2, 3] rfl (by decide) 2 1 rfl rfl rfl hl.1 rfl (Nat.le_of_ble_eq_true rfl) dX8_night_92 ⟨Nat.zero_le _, Nat.zero_le _⟩) hP hD hS hA [2, 3] [0, 1, 4, 5, 6, 7, 8, 9, 10, 11, 12, 13, 14, 15, 16, 17, 18, 19, 20, 21, 22, 23, 24, 25, 26, 27, 28, 29] rfl rfl (by decide) (by decide) [0, 1, 28, 29, 2, 3, 4, 5, 6, 7, 8, 9, 10, 11, 12, 13, 14, 15, 16, 17, 18, 19, 20, 21, 22, 23, 24, 25, 26, 27] (by decide) rfl rfl (fun H locs hP hD hS => ?_)
        refine lv_iinc (v := (y1_68 + 1)) (lv' := [(1, .int (y1_68 + 1)), (0, .ref aN)]) hx hb dX8_night_95 hl (k := 1) rfl (by first | rfl | decide) (by decide) rfl (fun ls hl => ?_)
        refine lv_goto (tgt := 68) hx hb dX8_night_98 (by decide) ?_
        exact ih68 (y1_68 + 1) vD_now_92 vD_past_68 vW_cells_68 vW_inFront_68 vW_who_68 vD_68 vW_68 H locs ls hP hD hS (lv_sub hl [1, 0] rfl) (hR68 _ (Option.some.inj hok).symm)
  unfold fX8_night at hok
  obtain ⟨H, hH⟩ : ∃ H, H = s.heap := ⟨_, rfl⟩
  obtain ⟨locs, hlc⟩ : ∃ x : List Loc, x = [] := ⟨_, rfl⟩
  have hP : va_P D vwCl (wX8_night cy aN qN aH qH qD pD_past qW aH0 aH aH0 vN vH vD vD_now vD_past vW vW_who vH_kinds vW_cells vH_sorts vH_next vW_inFront vH_sizes vH_width) H := by rw [hH]; exact hP
  have hS : va_S A s.heap H locs := by rw [hH, hlc]; exact hS
  rw [show W p l e _ s m _ below meth c s.heap [] = W p l e _ s m _ below meth c H locs from by rw [hH, hlc]]
  refine lv_aload_n hx hb dX8_night_0 rfl (lv_at hl 0 rfl) ?_
  refine va_get (D := D) (ci := 7) (v := .ref aH) (C := RX8) (T := TX8) (N := 9) hx hb ht0 niX8 hown hK hP 0 rfl rfl 5 (by decide) (ht0 _ wd522) (fun _ h9 => h9) rfl dX8_night_1 ?_
  obtain ⟨r4, hc4, hok⟩ := k_bind hok
  refine kCi (wc := (wX4_stands cy aH qH vH)) (wc2 := (wX4_stands cy aH qH vH)) (wr := [(aN, oX8 vN qN aH), (qN 1, oX1 vD qD), (qD 0, rI cy 9 vD_now), (qD 1, rR cy 16 (fun j => some (pD_past j))), (pD_past 0, rI cy 9 (vD_past 0)), (pD_past 1, rI cy 9 (vD_past 1)), (pD_past 2, rI cy 9 (vD_past 2)), (pD_past 3, rI cy 9 (vD_past 3)), (pD_past 4, rI cy 9 (vD_past 4)), (pD_past 5, rI cy 9 (vD_past 5)), (pD_past 6, rI cy 9 (vD_past 6)), (pD_past 7, rI cy 9 (vD_past 7)), (pD_past 8, rI cy 9 (vD_past 8)), (pD_past 9, rI cy 9 (vD_past 9)), (pD_past 10, rI cy 9 (vD_past 10)), (pD_past 11, rI cy 9 (vD_past 11)), (pD_past 12, rI cy 9 (vD_past 12)), (pD_past 13, rI cy 9 (vD_past 13)), (pD_past 14, rI cy 9 (vD_past 14)), (pD_past 15, rI cy 9 (vD_past 15)), (qN 2, oX6 vW qW aH0), (qW 1, rI cy 36 vW_who), (qH 14, rI cy 7 vH_kinds), (qW 0, rI cy 7 vW_cells), (qH 8, rI cy 4 vH_sorts), (qH 10, rI cy 36 vH_next), (qW 2, rI cy 7 vW_inFront), (qH 15, rI cy 7 vH_sizes), (qH 11, rI cy 36 vH_width)]) (ws2 := (wX8_night cy aN qN aH qH qD pD_past qW aH0 aH aH0 vN vH vD vD_now vD_past vW vW_who vH_kinds vW_cells vH_sorts vH_next vW_inFront vH_sizes vH_width)) (kRunV (As := []) (rest := []) ⟨hx, hb, hml, hown, ht0⟩ (kX4_stands l D cy _ aH qH vH r4 hc4 _ rfl) (cwV 0 ht0 (gV wd577 wd462 wd463 wd9 wd464) rfl rfl rfl (by decide +kernel) ⟨Nat.le_of_ble_eq_true rfl, Nat.le_of_ble_eq_true rfl⟩) hK hN hP hD [1] rfl (by decide) 1 3 rfl rfl rfl hl.1 rfl (Nat.le_of_ble_eq_true rfl) dX8_night_4 ⟨Nat.zero_le _, Nat.zero_le _⟩) hP hD hS hA [1] [0, 2, 3, 4, 5, 6, 7, 8, 9, 10, 11, 12, 13, 14, 15, 16, 17, 18, 19, 20, 21, 22, 23, 24, 25, 26, 27, 28, 29] rfl rfl (by decide) (by decide) [0, 29, 1, 2, 3, 4, 5, 6, 7, 8, 9, 10, 11, 12, 13, 14, 15, 16, 17, 18, 19, 20, 21, 22, 23, 24, 25, 26, 27, 28] (by decide) rfl rfl (fun H locs hP hD hS => ?_)
  refine lv_if_ne (tgt := 16) hx hb dX8_night_7 (by decide) (fun c7 => ?_) (fun c7 => ?_)
  · have hok := k_neg c7 hok
    refine lv_aload_n hx hb dX8_night_16 rfl (lv_at hl 0 rfl) ?_
    refine va_get (D := D) (ci := 7) (v := .ref (qN 1)) (C := RX8) (T := TX8) (N := 9) hx hb ht0 niX8 hown hK hP 0 rfl rfl 1 (by decide) (ht0 _ wd527) (fun _ h9 => h9) rfl dX8_night_17 ?_
    obtain ⟨r20, hc20, hok⟩ := k_bind hok
    refine kCi (wc := (wX1_nightNow cy (qN 1) qD vD vD_now)) (wc2 := (wX1_nightNow cy (qN 1) qD vD vD_now)) (wr := [(aN, oX8 vN qN aH), (aH, oX4 vH qH), (qD 1, rR cy 16 (fun j => some (pD_past j))), (pD_past 0, rI cy 9 (vD_past 0)), (pD_past 1, rI cy 9 (vD_past 1)), (pD_past 2, rI cy 9 (vD_past 2)), (pD_past 3, rI cy 9 (vD_past 3)), (pD_past 4, rI cy 9 (vD_past 4)), (pD_past 5, rI cy 9 (vD_past 5)), (pD_past 6, rI cy 9 (vD_past 6)), (pD_past 7, rI cy 9 (vD_past 7)), (pD_past 8, rI cy 9 (vD_past 8)), (pD_past 9, rI cy 9 (vD_past 9)), (pD_past 10, rI cy 9 (vD_past 10)), (pD_past 11, rI cy 9 (vD_past 11)), (pD_past 12, rI cy 9 (vD_past 12)), (pD_past 13, rI cy 9 (vD_past 13)), (pD_past 14, rI cy 9 (vD_past 14)), (pD_past 15, rI cy 9 (vD_past 15)), (qN 2, oX6 vW qW aH0), (qW 1, rI cy 36 vW_who), (qH 14, rI cy 7 vH_kinds), (qW 0, rI cy 7 vW_cells), (qH 8, rI cy 4 vH_sorts), (qH 10, rI cy 36 vH_next), (qW 2, rI cy 7 vW_inFront), (qH 15, rI cy 7 vH_sizes), (qH 11, rI cy 36 vH_width)]) (ws2 := (wX8_night cy aN qN aH qH qD pD_past qW aH0 aH aH0 vN vH vD vD_now vD_past vW vW_who vH_kinds vW_cells vH_sorts vH_next vW_inFront vH_sizes vH_width)) (kRunV (As := []) (rest := []) ⟨hx, hb, hml, hown, ht0⟩ (kX1_nightNow l D cy _ (qN 1) qD vD vD_now r20 hc20 _ rfl) (cwV 0 ht0 (gV wd704 wd117 wd118 wd74 wd119) rfl rfl rfl (by decide +kernel) ⟨Nat.le_of_ble_eq_true rfl, Nat.le_of_ble_eq_true rfl⟩) hK hN hP hD [2, 3] rfl (by decide) 2 1 rfl rfl rfl hl.1 rfl (Nat.le_of_ble_eq_true rfl) dX8_night_20 ⟨Nat.zero_le _, Nat.zero_le _⟩) hP hD hS hA [2, 3] [0, 1, 4, 5, 6, 7, 8, 9, 10, 11, 12, 13, 14, 15, 16, 17, 18, 19, 20, 21, 22, 23, 24, 25, 26, 27, 28, 29] rfl rfl (by decide) (by decide) [0, 1, 28, 29, 2, 3, 4, 5, 6, 7, 8, 9, 10, 11, 12, 13, 14, 15, 16, 17, 18, 19, 20, 21, 22, 23, 24, 25, 26, 27] (by decide) rfl rfl (fun H locs hP hD hS => ?_)
    refine lv_sipush (v := 999) hx hb dX8_night_23 (by decide) ?_
    refine lv_icmp_lt (tgt := 35) hx hb dX8_night_26 (by decide) (fun c26 => ?_) (fun c26 => ?_)
    · have hok := k_pos c26 hok
      refine lv_aload_n hx hb dX8_night_35 rfl (lv_at hl 0 rfl) ?_
      refine va_get (D := D) (ci := 7) (v := .ref (qN 1)) (C := RX8) (T := TX8) (N := 9) hx hb ht0 niX8 hown hK hP 0 rfl rfl 1 (by decide) (ht0 _ wd527) (fun _ h9 => h9) rfl dX8_night_36 ?_
      obtain ⟨⟨vD_39, vD_past_39⟩, hc39, hok⟩ := k_bind hok
      try dsimp only at hok
      refine kCv (wc := (wX1_keep cy (qN 1) qD pD_past vD vD_past vD_now)) (wc2 := (wX1_keep cy (qN 1) qD pD_past vD_39 vD_past_39 vD_now)) (wr := [(aN, oX8 vN qN aH), (aH, oX4 vH qH), (qN 2, oX6 vW qW aH0), (qW 1, rI cy 36 vW_who), (qH 14, rI cy 7 vH_kinds), (qW 0, rI cy 7 vW_cells), (qH 8, rI cy 4 vH_sorts), (qH 10, rI cy 36 vH_next), (qW 2, rI cy 7 vW_inFront), (qH 15, rI cy 7 vH_sizes), (qH 11, rI cy 36 vH_width)]) (ws2 := (wX8_night cy aN qN aH qH qD pD_past qW aH0 aH aH0 vN vH vD_39 vD_now vD_past_39 vW vW_who vH_kinds vW_cells vH_sorts vH_next vW_inFront vH_sizes vH_width)) (kRunV (As := []) (rest := []) ⟨hx, hb, hml, hown, ht0⟩ (kX1_keep l D cy _ (qN 1) qD pD_past vD vD_past vD_now vD_39 vD_past_39 hc39 _ rfl) (cwV 0 ht0 (gV wd684 wd685 wd686 wd74 wd687) rfl rfl rfl (by decide +kernel) ⟨Nat.le_of_ble_eq_true rfl, Nat.le_of_ble_eq_true rfl⟩) hK hN hP hD [2, 4, 5, 6, 7, 8, 9, 10, 11, 12, 13, 14, 15, 16, 17, 18, 19, 20, 3] rfl (by decide) 2 1 rfl rfl rfl hl.1 rfl (Nat.le_of_ble_eq_true rfl) dX8_night_39 ⟨Nat.zero_le _, Nat.zero_le _⟩) hP hD hS hA [2, 4, 5, 6, 7, 8, 9, 10, 11, 12, 13, 14, 15, 16, 17, 18, 19, 20, 3] [0, 1, 21, 22, 23, 24, 25, 26, 27, 28, 29] rfl rfl (by decide) (by decide) [0, 1, 11, 29, 12, 13, 14, 15, 16, 17, 18, 19, 20, 21, 22, 23, 24, 25, 26, 27, 28, 2, 3, 4, 5, 6, 7, 8, 9, 10] (by decide) rfl rfl (fun H locs hP hD hS => ?_)
      refine lv_aload_n hx hb dX8_night_42 rfl (lv_at hl 0 rfl) ?_
      refine va_get (D := D) (ci := 7) (v := .ref (qN 2)) (C := RX8) (T := TX8) (N := 9) hx hb ht0 niX8 hown hK hP 0 rfl rfl 2 (by decide) (ht0 _ wd578) (fun _ h9 => h9) rfl dX8_night_43 ?_
      refine lv_aload_n hx hb dX8_night_46 rfl (lv_at hl 0 rfl) ?_
      refine va_get (D := D) (ci := 7) (v := .ref aH) (C := RX8) (T := TX8) (N := 9) hx hb ht0 niX8 hown hK hP 0 rfl rfl 5 (by decide) (ht0 _ wd522) (fun _ h9 => h9) rfl dX8_night_47 ?_
      refine lv_aload_n hx hb dX8_night_50 rfl (lv_at hl 0 rfl) ?_
      refine va_get (D := D) (ci := 7) (v := .ref (qN 1)) (C := RX8) (T := TX8) (N := 9) hx hb ht0 niX8 hown hK hP 0 rfl rfl 1 (by decide) (ht0 _ wd527) (fun _ h9 => h9) rfl dX8_night_51 ?_
      refine lv_iconst (v := 0) hx hb dX8_night_54 (by decide) ?_
      obtain ⟨⟨vW_55, vW_who_55, vW_cells_55⟩, hc55, hok⟩ := k_bind hok
      try dsimp only at hok
      refine kCv (wc := (wX6_start cy (qN 2) aH (qN 1) qW aH0 qD qH aH0 vW vD_39 vD_now vW_who vH vH_kinds vW_cells vH_sorts)) (wc2 := (wX6_start cy (qN 2) aH (qN 1) qW aH0 qD qH aH vW_55 vD_39 vD_now vW_who_55 vH vH_kinds vW_cells_55 vH_sorts)) (wr := [(aN, oX8 vN qN aH), (qD 1, rR cy 16 (fun j => some (pD_past j))), (pD_past 0, rI cy 9 (vD_past_39 0)), (pD_past 1, rI cy 9 (vD_past_39 1)), (pD_past 2, rI cy 9 (vD_past_39 2)), (pD_past 3, rI cy 9 (vD_past_39 3)), (pD_past 4, rI cy 9 (vD_past_39 4)), (pD_past 5, rI cy 9 (vD_past_39 5)), (pD_past 6, rI cy 9 (vD_past_39 6)), (pD_past 7, rI cy 9 (vD_past_39 7)), (pD_past 8, rI cy 9 (vD_past_39 8)), (pD_past 9, rI cy 9 (vD_past_39 9)), (pD_past 10, rI cy 9 (vD_past_39 10)), (pD_past 11, rI cy 9 (vD_past_39 11)), (pD_past 12, rI cy 9 (vD_past_39 12)), (pD_past 13, rI cy 9 (vD_past_39 13)), (pD_past 14, rI cy 9 (vD_past_39 14)), (pD_past 15, rI cy 9 (vD_past_39 15)), (qH 10, rI cy 36 vH_next), (qW 2, rI cy 7 vW_inFront), (qH 15, rI cy 7 vH_sizes), (qH 11, rI cy 36 vH_width)]) (ws2 := (wX8_night cy aN qN aH qH qD pD_past qW aH0 aH aH vN vH vD_39 vD_now vD_past_39 vW_55 vW_who_55 vH_kinds vW_cells_55 vH_sorts vH_next vW_inFront vH_sizes vH_width)) (kRunV (As := [.ref aH, .ref (qN 1), .int 0]) (rest := []) ⟨hx, hb, hml, hown, ht0⟩ (kX6_start l D cy _ (qN 2) aH (qN 1) qW aH0 qD qH vW vD_39 vD_now vW_who vH vH_kinds vW_cells vH_sorts (0 : Int32) vW_55 vW_who_55 vW_cells_55 hc55 _ rfl) (cwV 3 ht0 (gV wd579 wd181 wd182 wd114 wd183) rfl rfl rfl (by decide +kernel) ⟨Nat.le_of_ble_eq_true rfl, Nat.le_of_ble_eq_true rfl⟩) hK hN hP hD [21, 2, 3, 22, 1, 23, 24, 25] rfl (by decide) 21 5 rfl rfl rfl hl.1 rfl (Nat.le_of_ble_eq_true rfl) dX8_night_55 ⟨Nat.zero_le _, Nat.zero_le _⟩) hP hD hS hA [21, 2, 3, 22, 1, 23, 24, 25] [0, 4, 5, 6, 7, 8, 9, 10, 11, 12, 13, 14, 15, 16, 17, 18, 19, 20, 26, 27, 28, 29] rfl rfl (by decide) (by decide) [0, 26, 23, 24, 1, 2, 3, 4, 5, 6, 7, 8, 9, 10, 11, 12, 13, 14, 15, 16, 17, 22, 25, 27, 28, 29, 18, 19, 20, 21] (by decide) rfl rfl (fun H locs hP hD hS => ?_)
      refine lv_aload_n hx hb dX8_night_58 rfl (lv_at hl 0 rfl) ?_
      refine va_get (D := D) (ci := 7) (v := .ref (qN 2)) (C := RX8) (T := TX8) (N := 9) hx hb ht0 niX8 hown hK hP 0 rfl rfl 2 (by decide) (ht0 _ wd578) (fun _ h9 => h9) rfl dX8_night_59 ?_
      refine lv_iconst (v := 0) hx hb dX8_night_62 (by decide) ?_
      obtain ⟨⟨vW_63, vW_cells_63, vW_who_63, vW_inFront_63⟩, hc63, hok⟩ := k_bind hok
      try dsimp only at hok
      refine kCv (wc := (wX6_pass cy (qN 2) qW aH qH aH vW_55 vH vW_cells_55 vH_next vW_who_55 vW_inFront vH_sizes vH_width vH_kinds)) (wc2 := (wX6_pass cy (qN 2) qW aH qH aH vW_63 vH vW_cells_63 vH_next vW_who_63 vW_inFront_63 vH_sizes vH_width vH_kinds)) (wr := [(aN, oX8 vN qN aH), (qN 1, oX1 vD_39 qD), (qD 0, rI cy 9 vD_now), (qD 1, rR cy 16 (fun j => some (pD_past j))), (pD_past 0, rI cy 9 (vD_past_39 0)), (pD_past 1, rI cy 9 (vD_past_39 1)), (pD_past 2, rI cy 9 (vD_past_39 2)), (pD_past 3, rI cy 9 (vD_past_39 3)), (pD_past 4, rI cy 9 (vD_past_39 4)), (pD_past 5, rI cy 9 (vD_past_39 5)), (pD_past 6, rI cy 9 (vD_past_39 6)), (pD_past 7, rI cy 9 (vD_past_39 7)), (pD_past 8, rI cy 9 (vD_past_39 8)), (pD_past 9, rI cy 9 (vD_past_39 9)), (pD_past 10, rI cy 9 (vD_past_39 10)), (pD_past 11, rI cy 9 (vD_past_39 11)), (pD_past 12, rI cy 9 (vD_past_39 12)), (pD_past 13, rI cy 9 (vD_past_39 13)), (pD_past 14, rI cy 9 (vD_past_39 14)), (pD_past 15, rI cy 9 (vD_past_39 15)), (qH 8, rI cy 4 vH_sorts)]) (ws2 := (wX8_night cy aN qN aH qH qD pD_past qW aH0 aH aH vN vH vD_39 vD_now vD_past_39 vW_63 vW_who_63 vH_kinds vW_cells_63 vH_sorts vH_next vW_inFront_63 vH_sizes vH_width)) (kRunV (As := [.int 0]) (rest := []) ⟨hx, hb, hml, hown, ht0⟩ (kX6_pass l D cy _ (qN 2) qW aH qH vW_55 vH vW_cells_55 vH_next vW_who_55 vW_inFront vH_sizes vH_width vH_kinds (0 : Int32) vW_63 vW_cells_63 vW_who_63 vW_inFront_63 hc63 _ rfl) (cwV 1 ht0 (gV wd598 wd155 wd156 wd114 wd157) rfl rfl rfl (by decide +kernel) ⟨Nat.le_of_ble_eq_true rfl, Nat.le_of_ble_eq_true rfl⟩) hK hN hP hD [21, 1, 24, 26, 22, 27, 28, 29, 23] rfl (by decide) 21 5 rfl rfl rfl hl.1 rfl (Nat.le_of_ble_eq_true rfl) dX8_night_63 ⟨Nat.zero_le _, Nat.zero_le _⟩) hP hD hS hA [21, 1, 24, 26, 22, 27, 28, 29, 23] [0, 2, 3, 4, 5, 6, 7, 8, 9, 10, 11, 12, 13, 14, 15, 16, 17, 18, 19, 20, 25] rfl rfl (by decide) (by decide) [0, 22, 1, 2, 3, 4, 5, 6, 7, 8, 9, 10, 11, 12, 13, 14, 15, 16, 17, 18, 19, 21, 25, 29, 23, 20, 24, 26, 27, 28] (by decide) rfl rfl (fun H locs hP hD hS => ?_)
      refine lv_iconst (v := 0) hx hb dX8_night_66 (by decide) ?_
      refine lv_istore_n (lv' := [(1, .int 0), (0, .ref aN)]) hx hb dX8_night_67 rfl hl (by decide) rfl (fun ls hl => ?_)
      exact L68 5000 (0 : Int32) vD_now vD_past_39 vW_cells_63 vW_inFront_63 vW_who_63 vD_39 vW_63 H locs ls hP hD hS (lv_sub hl [1, 0] rfl) hok
    · have hok := k_neg c26 hok
      refine lv_aload_n hx hb dX8_night_29 rfl (lv_at hl 0 rfl) ?_
      refine lv_iconst (v := 3) hx hb dX8_night_30 (by decide) ?_
      obtain ⟨⟨r31, vN_31⟩, hc31, hok⟩ := k_bind hok
      try dsimp only at hok
      refine kCi (wc := (wX8_refuse cy aN qN aH aH vN)) (wc2 := (wX8_refuse cy aN qN aH aH vN_31)) (wr := [(aH, oX4 vH qH), (qN 1, oX1 vD qD), (qD 0, rI cy 9 vD_now), (qD 1, rR cy 16 (fun j => some (pD_past j))), (pD_past 0, rI cy 9 (vD_past 0)), (pD_past 1, rI cy 9 (vD_past 1)), (pD_past 2, rI cy 9 (vD_past 2)), (pD_past 3, rI cy 9 (vD_past 3)), (pD_past 4, rI cy 9 (vD_past 4)), (pD_past 5, rI cy 9 (vD_past 5)), (pD_past 6, rI cy 9 (vD_past 6)), (pD_past 7, rI cy 9 (vD_past 7)), (pD_past 8, rI cy 9 (vD_past 8)), (pD_past 9, rI cy 9 (vD_past 9)), (pD_past 10, rI cy 9 (vD_past 10)), (pD_past 11, rI cy 9 (vD_past 11)), (pD_past 12, rI cy 9 (vD_past 12)), (pD_past 13, rI cy 9 (vD_past 13)), (pD_past 14, rI cy 9 (vD_past 14)), (pD_past 15, rI cy 9 (vD_past 15)), (qN 2, oX6 vW qW aH0), (qW 1, rI cy 36 vW_who), (qH 14, rI cy 7 vH_kinds), (qW 0, rI cy 7 vW_cells), (qH 8, rI cy 4 vH_sorts), (qH 10, rI cy 36 vH_next), (qW 2, rI cy 7 vW_inFront), (qH 15, rI cy 7 vH_sizes), (qH 11, rI cy 36 vH_width)]) (ws2 := (wX8_night cy aN qN aH qH qD pD_past qW aH0 aH aH0 vN_31 vH vD vD_now vD_past vW vW_who vH_kinds vW_cells vH_sorts vH_next vW_inFront vH_sizes vH_width)) (kRunV (As := [.int 3]) (rest := []) ⟨hx, hb, hml, hown, ht0⟩ (kX8_refuse l D cy _ aN qN aH vN (3 : Int32) r31 vN_31 hc31 _ rfl) (cwV 1 ht0 (gV wd504 wd505 wd506 wd57 wd507) rfl rfl rfl (by decide +kernel) ⟨Nat.le_of_ble_eq_true rfl, Nat.le_of_ble_eq_true rfl⟩) hK hN hP hD [0] rfl (by decide) 0 7 rfl rfl rfl hl.1 rfl (Nat.le_of_ble_eq_true rfl) dX8_night_31 ⟨Nat.zero_le _, Nat.zero_le _⟩) hP hD hS hA [0] [1, 2, 3, 4, 5, 6, 7, 8, 9, 10, 11, 12, 13, 14, 15, 16, 17, 18, 19, 20, 21, 22, 23, 24, 25, 26, 27, 28, 29] rfl rfl (by decide) (by decide) [29, 0, 1, 2, 3, 4, 5, 6, 7, 8, 9, 10, 11, 12, 13, 14, 15, 16, 17, 18, 19, 20, 21, 22, 23, 24, 25, 26, 27, 28] (by decide) rfl rfl (fun H locs hP hD hS => ?_)
      cases hok
      subst hQe; exact W.iret hx hb hr (fun t ht hW => ⟨⟨_, (), rfl, rfl, by rw [ht]; exact hP, va_K.moved hW.alike hK, hD⟩, hS.F ht⟩) hS.2.2 dX8_night_34
  · have hok := k_pos c7 hok
    refine lv_aload_n hx hb dX8_night_10 rfl (lv_at hl 0 rfl) ?_
    refine lv_iconst (v := 1) hx hb dX8_night_11 (by decide) ?_
    obtain ⟨⟨r12, vN_12⟩, hc12, hok⟩ := k_bind hok
    try dsimp only at hok
    refine kCi (wc := (wX8_refuse cy aN qN aH aH vN)) (wc2 := (wX8_refuse cy aN qN aH aH vN_12)) (wr := [(aH, oX4 vH qH), (qN 1, oX1 vD qD), (qD 0, rI cy 9 vD_now), (qD 1, rR cy 16 (fun j => some (pD_past j))), (pD_past 0, rI cy 9 (vD_past 0)), (pD_past 1, rI cy 9 (vD_past 1)), (pD_past 2, rI cy 9 (vD_past 2)), (pD_past 3, rI cy 9 (vD_past 3)), (pD_past 4, rI cy 9 (vD_past 4)), (pD_past 5, rI cy 9 (vD_past 5)), (pD_past 6, rI cy 9 (vD_past 6)), (pD_past 7, rI cy 9 (vD_past 7)), (pD_past 8, rI cy 9 (vD_past 8)), (pD_past 9, rI cy 9 (vD_past 9)), (pD_past 10, rI cy 9 (vD_past 10)), (pD_past 11, rI cy 9 (vD_past 11)), (pD_past 12, rI cy 9 (vD_past 12)), (pD_past 13, rI cy 9 (vD_past 13)), (pD_past 14, rI cy 9 (vD_past 14)), (pD_past 15, rI cy 9 (vD_past 15)), (qN 2, oX6 vW qW aH0), (qW 1, rI cy 36 vW_who), (qH 14, rI cy 7 vH_kinds), (qW 0, rI cy 7 vW_cells), (qH 8, rI cy 4 vH_sorts), (qH 10, rI cy 36 vH_next), (qW 2, rI cy 7 vW_inFront), (qH 15, rI cy 7 vH_sizes), (qH 11, rI cy 36 vH_width)]) (ws2 := (wX8_night cy aN qN aH qH qD pD_past qW aH0 aH aH0 vN_12 vH vD vD_now vD_past vW vW_who vH_kinds vW_cells vH_sorts vH_next vW_inFront vH_sizes vH_width)) (kRunV (As := [.int 1]) (rest := []) ⟨hx, hb, hml, hown, ht0⟩ (kX8_refuse l D cy _ aN qN aH vN (1 : Int32) r12 vN_12 hc12 _ rfl) (cwV 1 ht0 (gV wd504 wd505 wd506 wd57 wd507) rfl rfl rfl (by decide +kernel) ⟨Nat.le_of_ble_eq_true rfl, Nat.le_of_ble_eq_true rfl⟩) hK hN hP hD [0] rfl (by decide) 0 7 rfl rfl rfl hl.1 rfl (Nat.le_of_ble_eq_true rfl) dX8_night_12 ⟨Nat.zero_le _, Nat.zero_le _⟩) hP hD hS hA [0] [1, 2, 3, 4, 5, 6, 7, 8, 9, 10, 11, 12, 13, 14, 15, 16, 17, 18, 19, 20, 21, 22, 23, 24, 25, 26, 27, 28, 29] rfl rfl (by decide) (by decide) [29, 0, 1, 2, 3, 4, 5, 6, 7, 8, 9, 10, 11, 12, 13, 14, 15, 16, 17, 18, 19, 20, 21, 22, 23, 24, 25, 26, 27, 28] (by decide) rfl rfl (fun H locs hP hD hS => ?_)
    cases hok
    subst hQe; exact W.iret hx hb hr (fun t ht hW => ⟨⟨_, (), rfl, rfl, by rw [ht]; exact hP, va_K.moved hW.alike hK, hD⟩, hS.F ht⟩) hS.2.2 dX8_night_15
def wsX8_undo : List Cond := .code yX8_undo cX8_undo 1 (some .boolean) :: W0
abbrev wX8_undo (cy : Nat → ClassId) (aN : Nat) (qN : Nat → Nat) (aH : Nat) (qD : Nat → Nat) (pD_past : Nat → Nat) (fvN_5 : Nat) (vN : Nat → Int32) (vD : Nat → Int32) (vD_past : Nat → Nat → Int32) (vD_now : Nat → Int32) : va_W := [(aN, oX8 vN qN fvN_5), (qN 1, oX1 vD qD), (qD 1, rR cy 16 (fun j => some (pD_past j))), (pD_past 0, rI cy 9 (vD_past 0)), (pD_past 1, rI cy 9 (vD_past 1)), (pD_past 2, rI cy 9 (vD_past 2)), (pD_past 3, rI cy 9 (vD_past 3)), (pD_past 4, rI cy 9 (vD_past 4)), (pD_past 5, rI cy 9 (vD_past 5)), (pD_past 6, rI cy 9 (vD_past 6)), (pD_past 7, rI cy 9 (vD_past 7)), (pD_past 8, rI cy 9 (vD_past 8)), (pD_past 9, rI cy 9 (vD_past 9)), (pD_past 10, rI cy 9 (vD_past 10)), (pD_past 11, rI cy 9 (vD_past 11)), (pD_past 12, rI cy 9 (vD_past 12)), (pD_past 13, rI cy 9 (vD_past 13)), (pD_past 14, rI cy 9 (vD_past 14)), (pD_past 15, rI cy 9 (vD_past 15)), (qD 0, rI cy 9 vD_now)]
set_option maxHeartbeats 4000000 in
set_option maxRecDepth 100000 in
theorem kX8_undo (l : Launch) (D : va_G) (cy : Nat → ClassId) (sz : Nat) (aN : Nat) (qN : Nat → Nat) (aH : Nat) (qD : Nat → Nat) (pD_past : Nat → Nat) (vN : Nat → Int32) (vD : Nat → Int32) (vD_past : Nat → Nat → Int32) (vD_now : Nat → Int32) (zr : Int32) (z_vN : Nat → Int32) (z_vD : Nat → Int32) (z_vD_now : Nat → Int32) (hok : fX8_undo vN vD vD_past vD_now = some (zr, z_vN, z_vD, z_vD_now)) (A : Nat → Prop) (hAe : va_A (wX8_undo cy aN qN aH qD pD_past aH vN vD vD_past vD_now) sz = A) : Met l yX8_undo wsX8_undo ({ frames := 2, cells := 0, slots := 0, locals := 60 } : Room) (kPre D cy [.ref aN] (wX8_undo cy aN qN aH qD pD_past aH vN vD vD_past vD_now) sz) (kQi D cy zr A (wX8_undo cy aN qN aH qD pD_past aH z_vN z_vD vD_past z_vD_now)) 0 0 A := by
  refine Met.ofW (cc := cX8_undo) (maxL := 1) (ret := (some .boolean)) (by decide) rfl ?_
  intro p e s m args below meth c s₁ B hml hv
  obtain ⟨rfl, hsz, hP, hK, hD0, hN⟩ := hv
  have hx := B.exec
  have hb := B.bytes
  have hr := B.returns
  have ht0 : ∀ w ∈ W0, w.before _ s = true := fun w h => atoms_spec (ws := wsX8_undo) B.pre w (List.mem_cons_of_mem _ h)
  have hown : s.vm.findClass RX8 = some m.cls := findClass_of_methodNamed B.named
  have hlocks := B.notSynchronized
  subst hsz
  have hD : va_D A (wX8_undo cy aN qN aH qD pD_past aH vN vD vD_past vD_now) := by rw [← hAe]; exact hD0.self
  have hA : ∀ q : Nat, s.heap.size ≤ q → A q := fun q h => by rw [← hAe]; exact Or.inr h
  have hS : va_S A s.heap s.heap [] := va_S.rf
  have hl := lv_entry ([.ref aN]) (n := 1) (Nat.le_of_ble_eq_true rfl)
  rw [lg_entry_eq]
  generalize (lg_sl ([.ref aN]) ++ List.replicate (1 - (lg_sl ([.ref aN])).length) Slot.unset).toArray = ls at hl ⊢
  have hl : lv_has ls 1 [(0, .ref aN)] := hl
  generalize hQe : MQ below (kQi D cy zr A (wX8_undo cy aN qN aH qD pD_past aH z_vN z_vD vD_past z_vD_now)) ([.ref aN] : List Value).toArray s 0 0 A = Q
  have J17 : ∀ (t0_17 : Int32) (vD_now_17 : Nat → Int32) (vD_17 : Nat → Int32), ∀ (H : Heap) (locs : List Loc) (ls : Array Slot), va_P D vwCl (wX8_undo cy aN qN aH qD pD_past aH vN vD_17 vD_past vD_now_17) H → va_D A (wX8_undo cy aN qN aH qD pD_past aH vN vD_17 vD_past vD_now_17) → va_S A s.heap H locs → lv_has ls 1 [] → fX8_undo_J17 vN t0_17 vD_now_17 vD_17 = some (zr, z_vN, z_vD, z_vD_now) → W p l e ({ frames := 2, cells := 0, slots := 0, locals := 60 } : Room) s m ([.ref aN] : List Value).toArray below meth c H locs 0 0 Q (F0 m 17 ls [.int t0_17, .ref aN]) := by
    intro t0_17 vD_now_17 vD_17 H locs ls hP hD hS hl hok
    unfold fX8_undo_J17 at hok
    obtain ⟨⟨r17, vN_17c⟩, hc17, hok⟩ := k_bind hok
    try dsimp only at hok
    refine kCi (wc := (wX8_isDone cy aN qN aH aH vN)) (wc2 := (wX8_isDone cy aN qN aH aH vN_17c)) (wr := [(qN 1, oX1 vD_17 qD), (qD 1, rR cy 16 (fun j => some (pD_past j))), (pD_past 0, rI cy 9 (vD_past 0)), (pD_past 1, rI cy 9 (vD_past 1)), (pD_past 2, rI cy 9 (vD_past 2)), (pD_past 3, rI cy 9 (vD_past 3)), (pD_past 4, rI cy 9 (vD_past 4)), (pD_past 5, rI cy 9 (vD_past 5)), (pD_past 6, rI cy 9 (vD_past 6)), (pD_past 7, rI cy 9 (vD_past 7)), (pD_past 8, rI cy 9 (vD_past 8)), (pD_past 9, rI cy 9 (vD_past 9)), (pD_past 10, rI cy 9 (vD_past 10)), (pD_past 11, rI cy 9 (vD_past 11)), (pD_past 12, rI cy 9 (vD_past 12)), (pD_past 13, rI cy 9 (vD_past 13)), (pD_past 14, rI cy 9 (vD_past 14)), (pD_past 15, rI cy 9 (vD_past 15)), (qD 0, rI cy 9 vD_now_17)]) (ws2 := (wX8_undo cy aN qN aH qD pD_past aH vN_17c vD_17 vD_past vD_now_17)) (kRunV (As := [.int t0_17]) (rest := []) ⟨hx, hb, hml, hown, ht0⟩ (kX8_isDone l D cy _ aN qN aH vN t0_17 r17 vN_17c hc17 _ rfl) (cwV 1 ht0 (gV wd692 wd693 wd694 wd57 wd695) rfl rfl rfl (by decide +kernel) ⟨Nat.le_of_ble_eq_true rfl, Nat.le_of_ble_eq_true rfl⟩) hK hN hP hD [0] rfl (by decide) 0 7 rfl rfl rfl hl.1 rfl (Nat.le_of_ble_eq_true rfl) dX8_undo_17 ⟨Nat.zero_le _, Nat.zero_le _⟩) hP hD hS hA [0] [1, 2, 3, 4, 5, 6, 7, 8, 9, 10, 11, 12, 13, 14, 15, 16, 17, 18, 19] rfl rfl (by decide) (by decide) [19, 0, 1, 2, 3, 4, 5, 6, 7, 8, 9, 10, 11, 12, 13, 14, 15, 16, 17, 18] (by decide) rfl rfl (fun H locs hP hD hS => ?_)
    obtain ⟨g20, hok⟩ := gd_some hok
    cases hok
    subst hQe; exact W.zret hx hb hr (isB_nar g20) (fun t ht hW => ⟨⟨_, (), rfl, rfl, by rw [ht]; exact hP, va_K.moved hW.alike hK, hD⟩, hS.F ht⟩) hS.2.2 dX8_undo_20
  unfold fX8_undo at hok
  obtain ⟨H, hH⟩ : ∃ H, H = s.heap := ⟨_, rfl⟩
  obtain ⟨locs, hlc⟩ : ∃ x : List Loc, x = [] := ⟨_, rfl⟩
  have hP : va_P D vwCl (wX8_undo cy aN qN aH qD pD_past aH vN vD vD_past vD_now) H := by rw [hH]; exact hP
  have hS : va_S A s.heap H locs := by rw [hH, hlc]; exact hS
  rw [show W p l e _ s m _ below meth c s.heap [] = W p l e _ s m _ below meth c H locs from by rw [hH, hlc]]
  refine lv_aload_n hx hb dX8_undo_0 rfl (lv_at hl 0 rfl) ?_
  refine lv_aload_n hx hb dX8_undo_1 rfl (lv_at hl 0 rfl) ?_
  refine va_get (D := D) (ci := 7) (v := .ref (qN 1)) (C := RX8) (T := TX8) (N := 9) hx hb ht0 niX8 hown hK hP 0 rfl rfl 1 (by decide) (ht0 _ wd527) (fun _ h9 => h9) rfl dX8_undo_2 ?_
  obtain ⟨⟨r5, vD_5, vD_now_5⟩, hc5, hok⟩ := k_bind hok
  try dsimp only at hok
  refine kCi (wc := (wX1_takeBack cy (qN 1) qD pD_past vD vD_past vD_now)) (wc2 := (wX1_takeBack cy (qN 1) qD pD_past vD_5 vD_past vD_now_5)) (wr := [(aN, oX8 vN qN aH)]) (ws2 := (wX8_undo cy aN qN aH qD pD_past aH vN vD_5 vD_past vD_now_5)) (kRunV (As := []) (rest := [.ref aN]) ⟨hx, hb, hml, hown, ht0⟩ (kX1_takeBack l D cy _ (qN 1) qD pD_past vD vD_past vD_now r5 vD_5 vD_now_5 hc5 _ rfl) (cwV 0 ht0 (gV wd705 wd706 wd707 wd74 wd708) rfl rfl rfl (by decide +kernel) ⟨Nat.le_of_ble_eq_true rfl, Nat.le_of_ble_eq_true rfl⟩) hK hN hP hD [1, 2, 3, 4, 5, 6, 7, 8, 9, 10, 11, 12, 13, 14, 15, 16, 17, 18, 19] rfl (by decide) 1 1 rfl rfl rfl hl.1 rfl (Nat.le_of_ble_eq_true rfl) dX8_undo_5 ⟨Nat.zero_le _, Nat.zero_le _⟩) hP hD hS hA [1, 2, 3, 4, 5, 6, 7, 8, 9, 10, 11, 12, 13, 14, 15, 16, 17, 18, 19] [0] rfl rfl (by decide) (by decide) [0, 1, 2, 3, 4, 5, 6, 7, 8, 9, 10, 11, 12, 13, 14, 15, 16, 17, 18, 19] (by decide) rfl rfl (fun H locs hP hD hS => ?_)
  refine lv_if_eq (tgt := 15) hx hb dX8_undo_8 (by decide) (fun c8 => ?_) (fun c8 => ?_)
  · have hok := k_pos c8 hok
    refine lv_bipush (v := 6) hx hb dX8_undo_15 (by decide) ?_
    exact J17 (6 : Int32) vD_now_5 vD_5 H locs ls hP hD hS (lv_sub hl [] rfl) hok
  · have hok := k_neg c8 hok
    refine lv_iconst (v := 0) hx hb dX8_undo_11 (by decide) ?_
    refine lv_goto (tgt := 17) hx hb dX8_undo_12 (by decide) ?_
    exact J17 (0 : Int32) vD_now_5 vD_5 H locs ls hP hD hS (lv_sub hl [] rfl) hok
def wsX8_image : List Cond := .code yX8_image cX8_image 2 (some .int) :: W0
abbrev wX8_image (cy : Nat → ClassId) (aN : Nat) (qN : Nat → Nat) (aH : Nat) (qH : Nat → Nat) (qD : Nat → Nat) (pD_images : Nat → Nat) (fvN_5 : Nat) (vN : Nat → Int32) (vH : Nat → Int32) (vD : Nat → Int32) (vD_images : Nat → Nat → Int32) (vD_now : Nat → Int32) : va_W := [(aN, oX8 vN qN fvN_5), (aH, oX4 vH qH), (qN 1, oX1 vD qD), (qD 2, rR cy 3 (fun j => some (pD_images j))), (pD_images 0, rI cy 9 (vD_images 0)), (pD_images 1, rI cy 9 (vD_images 1)), (pD_images 2, rI cy 9 (vD_images 2)), (qD 0, rI cy 9 vD_now)]
set_option maxHeartbeats 4000000 in
set_option maxRecDepth 100000 in
theorem kX8_image (l : Launch) (D : va_G) (cy : Nat → ClassId) (sz : Nat) (aN : Nat) (qN : Nat → Nat) (aH : Nat) (qH : Nat → Nat) (qD : Nat → Nat) (pD_images : Nat → Nat) (vN : Nat → Int32) (vH : Nat → Int32) (vD : Nat → Int32) (vD_images : Nat → Nat → Int32) (vD_now : Nat → Int32) (zr : Int32) (z_vN : Nat → Int32) (z_vD : Nat → Int32) (z_vD_images : Nat → Nat → Int32) (hok : fX8_image vN vH vD vD_images vD_now = some (zr, z_vN, z_vD, z_vD_images)) (A : Nat → Prop) (hAe : va_A (wX8_image cy aN qN aH qH qD pD_images aH vN vH vD vD_images vD_now) sz = A) : Met l yX8_image wsX8_image ({ frames := 2, cells := 0, slots := 0, locals := 60 } : Room) (kPre D cy [.ref aN] (wX8_image cy aN qN aH qH qD pD_images aH vN vH vD vD_images vD_now) sz) (kQi D cy zr A (wX8_image cy aN qN aH qH qD pD_images aH z_vN vH z_vD z_vD_images vD_now)) 0 0 A := by
  refine Met.ofW (cc := cX8_image) (maxL := 2) (ret := (some .int)) (by decide) rfl ?_
  intro p e s m args below meth c s₁ B hml hv
  obtain ⟨rfl, hsz, hP, hK, hD0, hN⟩ := hv
  have hx := B.exec
  have hb := B.bytes
  have hr := B.returns
  have ht0 : ∀ w ∈ W0, w.before _ s = true := fun w h => atoms_spec (ws := wsX8_image) B.pre w (List.mem_cons_of_mem _ h)
  have hown : s.vm.findClass RX8 = some m.cls := findClass_of_methodNamed B.named
  have hlocks := B.notSynchronized
  subst hsz
  have hD : va_D A (wX8_image cy aN qN aH qH qD pD_images aH vN vH vD vD_images vD_now) := by rw [← hAe]; exact hD0.self
  have hA : ∀ q : Nat, s.heap.size ≤ q → A q := fun q h => by rw [← hAe]; exact Or.inr h
  have hS : va_S A s.heap s.heap [] := va_S.rf
  have hl := lv_entry ([.ref aN]) (n := 2) (Nat.le_of_ble_eq_true rfl)
  rw [lg_entry_eq]
  generalize (lg_sl ([.ref aN]) ++ List.replicate (2 - (lg_sl ([.ref aN])).length) Slot.unset).toArray = ls at hl ⊢
  have hl : lv_has ls 2 [(0, .ref aN)] := hl
  generalize hQe : MQ below (kQi D cy zr A (wX8_image cy aN qN aH qH qD pD_images aH z_vN vH z_vD z_vD_images vD_now)) ([.ref aN] : List Value).toArray s 0 0 A = Q
  have J41 : ∀ (t0_41 : Int32) (vD_images_41 : Nat → Nat → Int32) (vD_41 : Nat → Int32) (vN_41 : Nat → Int32), ∀ (H : Heap) (locs : List Loc) (ls : Array Slot), va_P D vwCl (wX8_image cy aN qN aH qH qD pD_images aH vN_41 vH vD_41 vD_images_41 vD_now) H → va_D A (wX8_image cy aN qN aH qH qD pD_images aH vN_41 vH vD_41 vD_images_41 vD_now) → va_S A s.heap H locs → lv_has ls 2 [] → fX8_image_J41 t0_41 vD_images_41 vD_41 vN_41 = some (zr, z_vN, z_vD, z_vD_images) → W p l e ({ frames := 2, cells := 0, slots := 0, locals := 60 } : Room) s m ([.ref aN] : List Value).toArray below meth c H locs 0 0 Q (F0 m 41 ls [.int t0_41]) := by
    intro t0_41 vD_images_41 vD_41 vN_41 H locs ls hP hD hS hl hok
    unfold fX8_image_J41 at hok
    cases hok
    subst hQe; exact W.iret hx hb hr (fun t ht hW => ⟨⟨_, (), rfl, rfl, by rw [ht]; exact hP, va_K.moved hW.alike hK, hD⟩, hS.F ht⟩) hS.2.2 dX8_image_41
  unfold fX8_image at hok
  obtain ⟨H, hH⟩ : ∃ H, H = s.heap := ⟨_, rfl⟩
  obtain ⟨locs, hlc⟩ : ∃ x : List Loc, x = [] := ⟨_, rfl⟩
  have hP : va_P D vwCl (wX8_image cy aN qN aH qH qD pD_images aH vN vH vD vD_images vD_now) H := by rw [hH]; exact hP
  have hS : va_S A s.heap H locs := by rw [hH, hlc]; exact hS
  rw [show W p l e _ s m _ below meth c s.heap [] = W p l e _ s m _ below meth c H locs from by rw [hH, hlc]]
  refine lv_aload_n hx hb dX8_image_0 rfl (lv_at hl 0 rfl) ?_
  refine va_get (D := D) (ci := 7) (v := .ref aH) (C := RX8) (T := TX8) (N := 9) hx hb ht0 niX8 hown hK hP 0 rfl rfl 5 (by decide) (ht0 _ wd522) (fun _ h9 => h9) rfl dX8_image_1 ?_
  obtain ⟨r4, hc4, hok⟩ := k_bind hok
  refine kCi (wc := (wX4_stands cy aH qH vH)) (wc2 := (wX4_stands cy aH qH vH)) (wr := [(aN, oX8 vN qN aH), (qN 1, oX1 vD qD), (qD 2, rR cy 3 (fun j => some (pD_images j))), (pD_images 0, rI cy 9 (vD_images 0)), (pD_images 1, rI cy 9 (vD_images 1)), (pD_images 2, rI cy 9 (vD_images 2)), (qD 0, rI cy 9 vD_now)]) (ws2 := (wX8_image cy aN qN aH qH qD pD_images aH vN vH vD vD_images vD_now)) (kRunV (As := []) (rest := []) ⟨hx, hb, hml, hown, ht0⟩ (kX4_stands l D cy _ aH qH vH r4 hc4 _ rfl) (cwV 0 ht0 (gV wd577 wd462 wd463 wd9 wd464) rfl rfl rfl (by decide +kernel) ⟨Nat.le_of_ble_eq_true rfl, Nat.le_of_ble_eq_true rfl⟩) hK hN hP hD [1] rfl (by decide) 1 3 rfl rfl rfl hl.1 rfl (Nat.le_of_ble_eq_true rfl) dX8_image_4 ⟨Nat.zero_le _, Nat.zero_le _⟩) hP hD hS hA [1] [0, 2, 3, 4, 5, 6, 7] rfl rfl (by decide) (by decide) [0, 7, 1, 2, 3, 4, 5, 6] (by decide) rfl rfl (fun H locs hP hD hS => ?_)
  refine lv_if_ne (tgt := 16) hx hb dX8_image_7 (by decide) (fun c7 => ?_) (fun c7 => ?_)
  · have hok := k_neg c7 hok
    refine lv_aload_n hx hb dX8_image_16 rfl (lv_at hl 0 rfl) ?_
    refine va_get (D := D) (ci := 7) (v := .ref (qN 1)) (C := RX8) (T := TX8) (N := 9) hx hb ht0 niX8 hown hK hP 0 rfl rfl 1 (by decide) (ht0 _ wd527) (fun _ h9 => h9) rfl dX8_image_17 ?_
    obtain ⟨⟨r20, vD_20, vD_images_20⟩, hc20, hok⟩ := k_bind hok
    try dsimp only at hok
    refine kCi (wc := (wX1_takeImage cy (qN 1) qD pD_images vD vD_images vD_now)) (wc2 := (wX1_takeImage cy (qN 1) qD pD_images vD_20 vD_images_20 vD_now)) (wr := [(aN, oX8 vN qN aH), (aH, oX4 vH qH)]) (ws2 := (wX8_image cy aN qN aH qH qD pD_images aH vN vH vD_20 vD_images_20 vD_now)) (kRunV (As := []) (rest := []) ⟨hx, hb, hml, hown, ht0⟩ (kX1_takeImage l D cy _ (qN 1) qD pD_images vD vD_images vD_now r20 vD_20 vD_images_20 hc20 _ rfl) (cwV 0 ht0 (gV wd709 wd710 wd711 wd74 wd712) rfl rfl rfl (by decide +kernel) ⟨Nat.le_of_ble_eq_true rfl, Nat.le_of_ble_eq_true rfl⟩) hK hN hP hD [2, 3, 4, 5, 6, 7] rfl (by decide) 2 1 rfl rfl rfl hl.1 rfl (Nat.le_of_ble_eq_true rfl) dX8_image_20 ⟨Nat.zero_le _, Nat.zero_le _⟩) hP hD hS hA [2, 3, 4, 5, 6, 7] [0, 1] rfl rfl (by decide) (by decide) [0, 1, 2, 3, 4, 5, 6, 7] (by decide) rfl rfl (fun H locs hP hD hS => ?_)
    refine lv_istore_n (lv' := [(1, .int r20), (0, .ref aN)]) hx hb dX8_image_23 rfl hl (by decide) rfl (fun ls hl => ?_)
    refine lv_iload_n hx hb dX8_image_24 rfl (lv_at hl 0 rfl) ?_
    refine lv_if_ge (tgt := 36) hx hb dX8_image_25 (by decide) (fun c25 => ?_) (fun c25 => ?_)
    · have hok := k_pos c25 hok
      refine lv_aload_n hx hb dX8_image_36 rfl (lv_at hl 1 rfl) ?_
      refine lv_iload_n hx hb dX8_image_37 rfl (lv_at hl 0 rfl) ?_
      obtain ⟨⟨r38, vN_38⟩, hc38, hok⟩ := k_bind hok
      try dsimp only at hok
      refine kCi (wc := (wX8_answer cy aN qN aH aH vN)) (wc2 := (wX8_answer cy aN qN aH aH vN_38)) (wr := [(aH, oX4 vH qH), (qN 1, oX1 vD_20 qD), (qD 2, rR cy 3 (fun j => some (pD_images j))), (pD_images 0, rI cy 9 (vD_images_20 0)), (pD_images 1, rI cy 9 (vD_images_20 1)), (pD_images 2, rI cy 9 (vD_images_20 2)), (qD 0, rI cy 9 vD_now)]) (ws2 := (wX8_image cy aN qN aH qH qD pD_images aH vN_38 vH vD_20 vD_images_20 vD_now)) (kRunV (As := [.int r20]) (rest := []) ⟨hx, hb, hml, hown, ht0⟩ (kX8_answer l D cy _ aN qN aH vN r20 r38 vN_38 hc38 _ rfl) (cwV 1 ht0 (gV wd538 wd539 wd540 wd57 wd541) rfl rfl rfl (by decide +kernel) ⟨Nat.le_of_ble_eq_true rfl, Nat.le_of_ble_eq_true rfl⟩) hK hN hP hD [0] rfl (by decide) 0 7 rfl rfl rfl hl.1 rfl (Nat.le_of_ble_eq_true rfl) dX8_image_38 ⟨Nat.zero_le _, Nat.zero_le _⟩) hP hD hS hA [0] [1, 2, 3, 4, 5, 6, 7] rfl rfl (by decide) (by decide) [7, 0, 1, 2, 3, 4, 5, 6] (by decide) rfl rfl (fun H locs hP hD hS => ?_)
      exact J41 r38 vD_images_20 vD_20 vN_38 H locs ls hP hD hS (lv_sub hl [] rfl) hok
    · have hok := k_neg c25 hok
      refine lv_aload_n hx hb dX8_image_28 rfl (lv_at hl 1 rfl) ?_
      refine lv_iconst (v := 3) hx hb dX8_image_29 (by decide) ?_
      obtain ⟨⟨r30, vN_30⟩, hc30, hok⟩ := k_bind hok
      try dsimp only at hok
      refine kCi (wc := (wX8_refuse cy aN qN aH aH vN)) (wc2 := (wX8_refuse cy aN qN aH aH vN_30)) (wr := [(aH, oX4 vH qH), (qN 1, oX1 vD_20 qD), (qD 2, rR cy 3 (fun j => some (pD_images j))), (pD_images 0, rI cy 9 (vD_images_20 0)), (pD_images 1, rI cy 9 (vD_images_20 1)), (pD_images 2, rI cy 9 (vD_images_20 2)), (qD 0, rI cy 9 vD_now)]) (ws2 := (wX8_image cy aN qN aH qH qD pD_images aH vN_30 vH vD_20 vD_images_20 vD_now)) (kRunV (As := [.int 3]) (rest := []) ⟨hx, hb, hml, hown, ht0⟩ (kX8_refuse l D cy _ aN qN aH vN (3 : Int32) r30 vN_30 hc30 _ rfl) (cwV 1 ht0 (gV wd504 wd505 wd506 wd57 wd507) rfl rfl rfl (by decide +kernel) ⟨Nat.le_of_ble_eq_true rfl, Nat.le_of_ble_eq_true rfl⟩) hK hN hP hD [0] rfl (by decide) 0 7 rfl rfl rfl hl.1 rfl (Nat.le_of_ble_eq_true rfl) dX8_image_30 ⟨Nat.zero_le _, Nat.zero_le _⟩) hP hD hS hA [0] [1, 2, 3, 4, 5, 6, 7] rfl rfl (by decide) (by decide) [7, 0, 1, 2, 3, 4, 5, 6] (by decide) rfl rfl (fun H locs hP hD hS => ?_)
      refine lv_goto (tgt := 41) hx hb dX8_image_33 (by decide) ?_
      exact J41 r30 vD_images_20 vD_20 vN_30 H locs ls hP hD hS (lv_sub hl [] rfl) hok
  · have hok := k_pos c7 hok
    refine lv_aload_n hx hb dX8_image_10 rfl (lv_at hl 0 rfl) ?_
    refine lv_iconst (v := 1) hx hb dX8_image_11 (by decide) ?_
    obtain ⟨⟨r12, vN_12⟩, hc12, hok⟩ := k_bind hok
    try dsimp only at hok
    refine kCi (wc := (wX8_refuse cy aN qN aH aH vN)) (wc2 := (wX8_refuse cy aN qN aH aH vN_12)) (wr := [(aH, oX4 vH qH), (qN 1, oX1 vD qD), (qD 2, rR cy 3 (fun j => some (pD_images j))), (pD_images 0, rI cy 9 (vD_images 0)), (pD_images 1, rI cy 9 (vD_images 1)), (pD_images 2, rI cy 9 (vD_images 2)), (qD 0, rI cy 9 vD_now)]) (ws2 := (wX8_image cy aN qN aH qH qD pD_images aH vN_12 vH vD vD_images vD_now)) (kRunV (As := [.int 1]) (rest := []) ⟨hx, hb, hml, hown, ht0⟩ (kX8_refuse l D cy _ aN qN aH vN (1 : Int32) r12 vN_12 hc12 _ rfl) (cwV 1 ht0 (gV wd504 wd505 wd506 wd57 wd507) rfl rfl rfl (by decide +kernel) ⟨Nat.le_of_ble_eq_true rfl, Nat.le_of_ble_eq_true rfl⟩) hK hN hP hD [0] rfl (by decide) 0 7 rfl rfl rfl hl.1 rfl (Nat.le_of_ble_eq_true rfl) dX8_image_12 ⟨Nat.zero_le _, Nat.zero_le _⟩) hP hD hS hA [0] [1, 2, 3, 4, 5, 6, 7] rfl rfl (by decide) (by decide) [7, 0, 1, 2, 3, 4, 5, 6] (by decide) rfl rfl (fun H locs hP hD hS => ?_)
    cases hok
    subst hQe; exact W.iret hx hb hr (fun t ht hW => ⟨⟨_, (), rfl, rfl, by rw [ht]; exact hP, va_K.moved hW.alike hK, hD⟩, hS.F ht⟩) hS.2.2 dX8_image_15
def wsX8_back : List Cond := .code yX8_back cX8_back 2 (some .boolean) :: W0
abbrev wX8_back (cy : Nat → ClassId) (aN : Nat) (qN : Nat → Nat) (aH : Nat) (qD : Nat → Nat) (pD_images : Nat → Nat) (fvN_5 : Nat) (vN : Nat → Int32) (vD : Nat → Int32) (vD_images : Nat → Nat → Int32) (vD_now : Nat → Int32) : va_W := [(aN, oX8 vN qN fvN_5), (qN 1, oX1 vD qD), (qD 2, rR cy 3 (fun j => some (pD_images j))), (pD_images 0, rI cy 9 (vD_images 0)), (pD_images 1, rI cy 9 (vD_images 1)), (pD_images 2, rI cy 9 (vD_images 2)), (qD 0, rI cy 9 vD_now)]
set_option maxHeartbeats 4000000 in
set_option maxRecDepth 100000 in
theorem kX8_back (l : Launch) (D : va_G) (cy : Nat → ClassId) (sz : Nat) (aN : Nat) (qN : Nat → Nat) (aH : Nat) (qD : Nat → Nat) (pD_images : Nat → Nat) (vN : Nat → Int32) (vD : Nat → Int32) (vD_images : Nat → Nat → Int32) (vD_now : Nat → Int32) (x1 : Int32) (zr : Int32) (z_vN : Nat → Int32) (z_vD : Nat → Int32) (z_vD_now : Nat → Int32) (hok : fX8_back vN vD vD_images vD_now x1 = some (zr, z_vN, z_vD, z_vD_now)) (A : Nat → Prop) (hAe : va_A (wX8_back cy aN qN aH qD pD_images aH vN vD vD_images vD_now) sz = A) : Met l yX8_back wsX8_back ({ frames := 2, cells := 0, slots := 0, locals := 61 } : Room) (kPre D cy [.ref aN, .int x1] (wX8_back cy aN qN aH qD pD_images aH vN vD vD_images vD_now) sz) (kQi D cy zr A (wX8_back cy aN qN aH qD pD_images aH z_vN z_vD vD_images z_vD_now)) 0 0 A := by
  refine Met.ofW (cc := cX8_back) (maxL := 2) (ret := (some .boolean)) (by decide) rfl ?_
  intro p e s m args below meth c s₁ B hml hv
  obtain ⟨rfl, hsz, hP, hK, hD0, hN⟩ := hv
  have hx := B.exec
  have hb := B.bytes
  have hr := B.returns
  have ht0 : ∀ w ∈ W0, w.before _ s = true := fun w h => atoms_spec (ws := wsX8_back) B.pre w (List.mem_cons_of_mem _ h)
  have hown : s.vm.findClass RX8 = some m.cls := findClass_of_methodNamed B.named
  have hlocks := B.notSynchronized
  subst hsz
  have hD : va_D A (wX8_back cy aN qN aH qD pD_images aH vN vD vD_images vD_now) := by rw [← hAe]; exact hD0.self
  have hA : ∀ q : Nat, s.heap.size ≤ q → A q := fun q h => by rw [← hAe]; exact Or.inr h
  have hS : va_S A s.heap s.heap [] := va_S.rf
  have hl := lv_entry ([.ref aN, .int x1]) (n := 2) (Nat.le_of_ble_eq_true rfl)
  rw [lg_entry_eq]
  generalize (lg_sl ([.ref aN, .int x1]) ++ List.replicate (2 - (lg_sl ([.ref aN, .int x1])).length) Slot.unset).toArray = ls at hl ⊢
  have hl : lv_has ls 2 [(0, .ref aN), (1, .int x1)] := hl
  generalize hQe : MQ below (kQi D cy zr A (wX8_back cy aN qN aH qD pD_images aH z_vN z_vD vD_images z_vD_now)) ([.ref aN, .int x1] : List Value).toArray s 0 0 A = Q
  have J17 : ∀ (t0_17 : Int32) (vD_now_17 : Nat → Int32) (vD_17 : Nat → Int32), ∀ (H : Heap) (locs : List Loc) (ls : Array Slot), va_P D vwCl (wX8_back cy aN qN aH qD pD_images aH vN vD_17 vD_images vD_now_17) H → va_D A (wX8_back cy aN qN aH qD pD_images aH vN vD_17 vD_images vD_now_17) → va_S A s.heap H locs → lv_has ls 2 [] → fX8_back_J17 vN t0_17 vD_now_17 vD_17 = some (zr, z_vN, z_vD, z_vD_now) → W p l e ({ frames := 2, cells := 0, slots := 0, locals := 61 } : Room) s m ([.ref aN, .int x1] : List Value).toArray below meth c H locs 0 0 Q (F0 m 17 ls [.int t0_17, .ref aN]) := by
    intro t0_17 vD_now_17 vD_17 H locs ls hP hD hS hl hok
    unfold fX8_back_J17 at hok
    obtain ⟨⟨r17, vN_17c⟩, hc17, hok⟩ := k_bind hok
    try dsimp only at hok
    refine kCi (wc := (wX8_isDone cy aN qN aH aH vN)) (wc2 := (wX8_isDone cy aN qN aH aH vN_17c)) (wr := [(qN 1, oX1 vD_17 qD), (qD 2, rR cy 3 (fun j => some (pD_images j))), (pD_images 0, rI cy 9 (vD_images 0)), (pD_images 1, rI cy 9 (vD_images 1)), (pD_images 2, rI cy 9 (vD_images 2)), (qD 0, rI cy 9 vD_now_17)]) (ws2 := (wX8_back cy aN qN aH qD pD_images aH vN_17c vD_17 vD_images vD_now_17)) (kRunV (As := [.int t0_17]) (rest := []) ⟨hx, hb, hml, hown, ht0⟩ (kX8_isDone l D cy _ aN qN aH vN t0_17 r17 vN_17c hc17 _ rfl) (cwV 1 ht0 (gV wd692 wd693 wd694 wd57 wd695) rfl rfl rfl (by decide +kernel) ⟨Nat.le_of_ble_eq_true rfl, Nat.le_of_ble_eq_true rfl⟩) hK hN hP hD [0] rfl (by decide) 0 7 rfl rfl rfl hl.1 rfl (Nat.le_of_ble_eq_true rfl) dX8_back_17 ⟨Nat.zero_le _, Nat.zero_le _⟩) hP hD hS hA [0] [1, 2, 3, 4, 5, 6] rfl rfl (by decide) (by decide) [6, 0, 1, 2, 3, 4, 5] (by decide) rfl rfl (fun H locs hP hD hS => ?_)
    obtain ⟨g20, hok⟩ := gd_some hok
    cases hok
    subst hQe; exact W.zret hx hb hr (isB_nar g20) (fun t ht hW => ⟨⟨_, (), rfl, rfl, by rw [ht]; exact hP, va_K.moved hW.alike hK, hD⟩, hS.F ht⟩) hS.2.2 dX8_back_20
  unfold fX8_back at hok
  obtain ⟨H, hH⟩ : ∃ H, H = s.heap := ⟨_, rfl⟩
  obtain ⟨locs, hlc⟩ : ∃ x : List Loc, x = [] := ⟨_, rfl⟩
  have hP : va_P D vwCl (wX8_back cy aN qN aH qD pD_images aH vN vD vD_images vD_now) H := by rw [hH]; exact hP
  have hS : va_S A s.heap H locs := by rw [hH, hlc]; exact hS
  rw [show W p l e _ s m _ below meth c s.heap [] = W p l e _ s m _ below meth c H locs from by rw [hH, hlc]]
  refine lv_aload_n hx hb dX8_back_0 rfl (lv_at hl 0 rfl) ?_
  refine lv_aload_n hx hb dX8_back_1 rfl (lv_at hl 0 rfl) ?_
  refine va_get (D := D) (ci := 7) (v := .ref (qN 1)) (C := RX8) (T := TX8) (N := 9) hx hb ht0 niX8 hown hK hP 0 rfl rfl 1 (by decide) (ht0 _ wd527) (fun _ h9 => h9) rfl dX8_back_2 ?_
  refine lv_iload_n hx hb dX8_back_5 rfl (lv_at hl 1 rfl) ?_
  obtain ⟨⟨r6, vD_6, vD_now_6⟩, hc6, hok⟩ := k_bind hok
  try dsimp only at hok
  refine kCi (wc := (wX1_returnTo cy (qN 1) qD pD_images vD vD_images vD_now)) (wc2 := (wX1_returnTo cy (qN 1) qD pD_images vD_6 vD_images vD_now_6)) (wr := [(aN, oX8 vN qN aH)]) (ws2 := (wX8_back cy aN qN aH qD pD_images aH vN vD_6 vD_images vD_now_6)) (kRunV (As := [.int x1]) (rest := [.ref aN]) ⟨hx, hb, hml, hown, ht0⟩ (kX1_returnTo l D cy _ (qN 1) qD pD_images vD vD_images vD_now x1 r6 vD_6 vD_now_6 hc6 _ rfl) (cwV 1 ht0 (gV wd713 wd714 wd715 wd74 wd716) rfl rfl rfl (by decide +kernel) ⟨Nat.le_of_ble_eq_true rfl, Nat.le_of_ble_eq_true rfl⟩) hK hN hP hD [1, 2, 3, 4, 5, 6] rfl (by decide) 1 1 rfl rfl rfl hl.1 rfl (Nat.le_of_ble_eq_true rfl) dX8_back_6 ⟨Nat.zero_le _, Nat.zero_le _⟩) hP hD hS hA [1, 2, 3, 4, 5, 6] [0] rfl rfl (by decide) (by decide) [0, 1, 2, 3, 4, 5, 6] (by decide) rfl rfl (fun H locs hP hD hS => ?_)
  refine lv_if_eq (tgt := 16) hx hb dX8_back_9 (by decide) (fun c9 => ?_) (fun c9 => ?_)
  · have hok := k_pos c9 hok
    refine lv_iconst (v := 1) hx hb dX8_back_16 (by decide) ?_
    exact J17 (1 : Int32) vD_now_6 vD_6 H locs ls hP hD hS (lv_sub hl [] rfl) hok
  · have hok := k_neg c9 hok
    refine lv_iconst (v := 0) hx hb dX8_back_12 (by decide) ?_
    refine lv_goto (tgt := 17) hx hb dX8_back_13 (by decide) ?_
    exact J17 (0 : Int32) vD_now_6 vD_6 H locs ls hP hD hS (lv_sub hl [] rfl) hok
def wsX8_size : List Cond := .code yX8_size cX8_size 2 (some .int) :: W0
abbrev wX8_size (cy : Nat → ClassId) (aN : Nat) (qN : Nat → Nat) (aH : Nat) (qH : Nat → Nat) (qU : Nat → Nat) (qD : Nat → Nat) (qR : Nat → Nat) (aH0 : Nat) (fvN_5 : Nat) (fvR_2 : Nat) (vN : Nat → Int32) (vH : Nat → Int32) (vH_places : Nat → Int32) (vU : Nat → Int32) (vD : Nat → Int32) (vD_now : Nat → Int32) (vR_j11 : Int64) (vR : Nat → Int32) : va_W := [(aN, oX8 vN qN fvN_5), (aH, oX4 vH qH), (qH 9, rI cy 4 vH_places), (qH 7, oX7 vU qU), (qN 1, oX1 vD qD), (qD 0, rI cy 9 vD_now), (qN 0, oX5 vR qR vR_j11 fvR_2)]
set_option maxHeartbeats 4000000 in
set_option maxRecDepth 100000 in
theorem kX8_size (l : Launch) (D : va_G) (cy : Nat → ClassId) (sz : Nat) (aN : Nat) (qN : Nat → Nat) (aH : Nat) (qH : Nat → Nat) (qU : Nat → Nat) (qD : Nat → Nat) (qR : Nat → Nat) (aH0 : Nat) (vN : Nat → Int32) (vH : Nat → Int32) (vH_places : Nat → Int32) (vU : Nat → Int32) (vD : Nat → Int32) (vD_now : Nat → Int32) (vR_j11 : Int64) (vR : Nat → Int32) (x1 : Int32) (zr : Int32) (hok : fX8_size vN vH vH_places vU vD vD_now vR_j11 vR x1 = some zr) (A : Nat → Prop) (hAe : va_A (wX8_size cy aN qN aH qH qU qD qR aH0 aH aH0 vN vH vH_places vU vD vD_now vR_j11 vR) sz = A) : Met l yX8_size wsX8_size ({ frames := 3, cells := 0, slots := 0, locals := 64 } : Room) (kPre D cy [.ref aN, .int x1] (wX8_size cy aN qN aH qH qU qD qR aH0 aH aH0 vN vH vH_places vU vD vD_now vR_j11 vR) sz) (kQi D cy zr A (wX8_size cy aN qN aH qH qU qD qR aH0 aH aH0 vN vH vH_places vU vD vD_now vR_j11 vR)) 0 0 A := by
  refine Met.ofW (cc := cX8_size) (maxL := 2) (ret := (some .int)) (by decide) rfl ?_
  intro p e s m args below meth c s₁ B hml hv
  obtain ⟨rfl, hsz, hP, hK, hD0, hN⟩ := hv
  have hx := B.exec
  have hb := B.bytes
  have hr := B.returns
  have ht0 : ∀ w ∈ W0, w.before _ s = true := fun w h => atoms_spec (ws := wsX8_size) B.pre w (List.mem_cons_of_mem _ h)
  have hown : s.vm.findClass RX8 = some m.cls := findClass_of_methodNamed B.named
  have hlocks := B.notSynchronized
  subst hsz
  have hD : va_D A (wX8_size cy aN qN aH qH qU qD qR aH0 aH aH0 vN vH vH_places vU vD vD_now vR_j11 vR) := by rw [← hAe]; exact hD0.self
  have hA : ∀ q : Nat, s.heap.size ≤ q → A q := fun q h => by rw [← hAe]; exact Or.inr h
  have hS : va_S A s.heap s.heap [] := va_S.rf
  have hl := lv_entry ([.ref aN, .int x1]) (n := 2) (Nat.le_of_ble_eq_true rfl)
  rw [lg_entry_eq]
  generalize (lg_sl ([.ref aN, .int x1]) ++ List.replicate (2 - (lg_sl ([.ref aN, .int x1])).length) Slot.unset).toArray = ls at hl ⊢
  have hl : lv_has ls 2 [(0, .ref aN), (1, .int x1)] := hl
  unfold fX8_size at hok
  obtain ⟨H, hH⟩ : ∃ H, H = s.heap := ⟨_, rfl⟩
  obtain ⟨locs, hlc⟩ : ∃ x : List Loc, x = [] := ⟨_, rfl⟩
  have hP : va_P D vwCl (wX8_size cy aN qN aH qH qU qD qR aH0 aH aH0 vN vH vH_places vU vD vD_now vR_j11 vR) H := by rw [hH]; exact hP
  have hS : va_S A s.heap H locs := by rw [hH, hlc]; exact hS
  rw [show W p l e _ s m _ below meth c s.heap [] = W p l e _ s m _ below meth c H locs from by rw [hH, hlc]]
  refine lv_iload_n hx hb dX8_size_0 rfl (lv_at hl 1 rfl) ?_
  by_cases c1_0 : x1 = 0
  · have hok := k_pos c1_0 hok
    refine lv_tableIn (tgt := 68) (off := 67) hx hb dX8_size_1 (by rw [c1_0]; decide) (by rw [c1_0]; decide) (by rw [c1_0]; decide) (by decide) ?_
    refine lv_aload_n hx hb dX8_size_68 rfl (lv_at hl 0 rfl) ?_
    refine va_get (D := D) (ci := 7) (v := .ref aH) (C := RX8) (T := TX8) (N := 9) hx hb ht0 niX8 hown hK hP 0 rfl rfl 5 (by decide) (ht0 _ wd522) (fun _ h9 => h9) rfl dX8_size_69 ?_
    refine va_get (D := D) (ci := 3) (v := .int (vH 0)) (C := RX4) (T := TX4) (N := 20) hx hb ht0 niX4 hown hK hP 1 rfl rfl 0 (by decide) (ht0 _ wd717) (fun _ h9 => h9) rfl dX8_size_72 ?_
    cases hok
    exact W.iret hx hb hr (fun t ht hW => ⟨⟨_, (), rfl, rfl, by rw [ht]; exact hP, va_K.moved hW.alike hK, hD⟩, hS.F ht⟩) hS.2.2 dX8_size_75
  have hok := k_neg c1_0 hok
  by_cases c1_1 : x1 = 1
  · have hok := k_pos c1_1 hok
    refine lv_tableIn (tgt := 76) (off := 75) hx hb dX8_size_1 (by rw [c1_1]; decide) (by rw [c1_1]; decide) (by rw [c1_1]; decide) (by decide) ?_
    refine lv_aload_n hx hb dX8_size_76 rfl (lv_at hl 0 rfl) ?_
    refine va_get (D := D) (ci := 7) (v := .ref aH) (C := RX8) (T := TX8) (N := 9) hx hb ht0 niX8 hown hK hP 0 rfl rfl 5 (by decide) (ht0 _ wd522) (fun _ h9 => h9) rfl dX8_size_77 ?_
    refine va_get (D := D) (ci := 3) (v := .int (vH 1)) (C := RX4) (T := TX4) (N := 20) hx hb ht0 niX4 hown hK hP 1 rfl rfl 1 (by decide) (ht0 _ wd718) (fun _ h9 => h9) rfl dX8_size_80 ?_
    cases hok
    exact W.iret hx hb hr (fun t ht hW => ⟨⟨_, (), rfl, rfl, by rw [ht]; exact hP, va_K.moved hW.alike hK, hD⟩, hS.F ht⟩) hS.2.2 dX8_size_83
  have hok := k_neg c1_1 hok
  by_cases c1_2 : x1 = 2
  · have hok := k_pos c1_2 hok
    refine lv_tableIn (tgt := 84) (off := 83) hx hb dX8_size_1 (by rw [c1_2]; decide) (by rw [c1_2]; decide) (by rw [c1_2]; decide) (by decide) ?_
    refine lv_aload_n hx hb dX8_size_84 rfl (lv_at hl 0 rfl) ?_
    refine va_get (D := D) (ci := 7) (v := .ref aH) (C := RX8) (T := TX8) (N := 9) hx hb ht0 niX8 hown hK hP 0 rfl rfl 5 (by decide) (ht0 _ wd522) (fun _ h9 => h9) rfl dX8_size_85 ?_
    refine va_get (D := D) (ci := 3) (v := .int (vH 2)) (C := RX4) (T := TX4) (N := 20) hx hb ht0 niX4 hown hK hP 1 rfl rfl 2 (by decide) (ht0 _ wd537) (fun _ h9 => h9) rfl dX8_size_88 ?_
    cases hok
    exact W.iret hx hb hr (fun t ht hW => ⟨⟨_, (), rfl, rfl, by rw [ht]; exact hP, va_K.moved hW.alike hK, hD⟩, hS.F ht⟩) hS.2.2 dX8_size_91
  have hok := k_neg c1_2 hok
  by_cases c1_3 : x1 = 3
  · have hok := k_pos c1_3 hok
    refine lv_tableIn (tgt := 92) (off := 91) hx hb dX8_size_1 (by rw [c1_3]; decide) (by rw [c1_3]; decide) (by rw [c1_3]; decide) (by decide) ?_
    refine lv_aload_n hx hb dX8_size_92 rfl (lv_at hl 0 rfl) ?_
    refine va_get (D := D) (ci := 7) (v := .ref aH) (C := RX8) (T := TX8) (N := 9) hx hb ht0 niX8 hown hK hP 0 rfl rfl 5 (by decide) (ht0 _ wd522) (fun _ h9 => h9) rfl dX8_size_93 ?_
    obtain ⟨r96, hc96, hok⟩ := k_bind hok
    refine kCi (wc := (wX4_placesOfAll cy aH qH vH vH_places)) (wc2 := (wX4_placesOfAll cy aH qH vH vH_places)) (wr := [(aN, oX8 vN qN aH), (qH 7, oX7 vU qU), (qN 1, oX1 vD qD), (qD 0, rI cy 9 vD_now), (qN 0, oX5 vR qR vR_j11 aH0)]) (ws2 := (wX8_size cy aN qN aH qH qU qD qR aH0 aH aH0 vN vH vH_places vU vD vD_now vR_j11 vR)) (kRunV (As := []) (rest := []) ⟨hx, hb, hml, hown, ht0⟩ (kX4_placesOfAll l D cy _ aH qH vH vH_places r96 hc96 _ rfl) (cwV 0 ht0 (gV wd719 wd720 wd721 wd9 wd722) rfl rfl rfl (by decide +kernel) ⟨Nat.le_of_ble_eq_true rfl, Nat.le_of_ble_eq_true rfl⟩) hK hN hP hD [1, 2] rfl (by decide) 1 3 rfl rfl rfl hl.1 rfl (Nat.le_of_ble_eq_true rfl) dX8_size_96 ⟨Nat.zero_le _, Nat.zero_le _⟩) hP hD hS hA [1, 2] [0, 3, 4, 5, 6] rfl rfl (by decide) (by decide) [0, 5, 6, 1, 2, 3, 4] (by decide) rfl rfl (fun H locs hP hD hS => ?_)
    cases hok
    exact W.iret hx hb hr (fun t ht hW => ⟨⟨_, (), rfl, rfl, by rw [ht]; exact hP, va_K.moved hW.alike hK, hD⟩, hS.F ht⟩) hS.2.2 dX8_size_99
  have hok := k_neg c1_3 hok
  by_cases c1_4 : x1 = 4
  · have hok := k_pos c1_4 hok
    refine lv_tableIn (tgt := 100) (off := 99) hx hb dX8_size_1 (by rw [c1_4]; decide) (by rw [c1_4]; decide) (by rw [c1_4]; decide) (by decide) ?_
    refine lv_aload_n hx hb dX8_size_100 rfl (lv_at hl 0 rfl) ?_
    refine va_get (D := D) (ci := 7) (v := .ref aH) (C := RX8) (T := TX8) (N := 9) hx hb ht0 niX8 hown hK hP 0 rfl rfl 5 (by decide) (ht0 _ wd522) (fun _ h9 => h9) rfl dX8_size_101 ?_
    refine va_get (D := D) (ci := 3) (v := .int (vH 5)) (C := RX4) (T := TX4) (N := 20) hx hb ht0 niX4 hown hK hP 1 rfl rfl 5 (by decide) (ht0 _ wd543) (fun _ h9 => h9) rfl dX8_size_104 ?_
    cases hok
    exact W.iret hx hb hr (fun t ht hW => ⟨⟨_, (), rfl, rfl, by rw [ht]; exact hP, va_K.moved hW.alike hK, hD⟩, hS.F ht⟩) hS.2.2 dX8_size_107
  have hok := k_neg c1_4 hok
  by_cases c1_5 : x1 = 5
  · have hok := k_pos c1_5 hok
    refine lv_tableIn (tgt := 108) (off := 107) hx hb dX8_size_1 (by rw [c1_5]; decide) (by rw [c1_5]; decide) (by rw [c1_5]; decide) (by decide) ?_
    refine lv_aload_n hx hb dX8_size_108 rfl (lv_at hl 0 rfl) ?_
    refine va_get (D := D) (ci := 7) (v := .ref aH) (C := RX8) (T := TX8) (N := 9) hx hb ht0 niX8 hown hK hP 0 rfl rfl 5 (by decide) (ht0 _ wd522) (fun _ h9 => h9) rfl dX8_size_109 ?_
    refine va_get (D := D) (ci := 3) (v := .int (vH 3)) (C := RX4) (T := TX4) (N := 20) hx hb ht0 niX4 hown hK hP 1 rfl rfl 3 (by decide) (ht0 _ wd723) (fun _ h9 => h9) rfl dX8_size_112 ?_
    cases hok
    exact W.iret hx hb hr (fun t ht hW => ⟨⟨_, (), rfl, rfl, by rw [ht]; exact hP, va_K.moved hW.alike hK, hD⟩, hS.F ht⟩) hS.2.2 dX8_size_115
  have hok := k_neg c1_5 hok
  by_cases c1_6 : x1 = 6
  · have hok := k_pos c1_6 hok
    refine lv_tableIn (tgt := 116) (off := 115) hx hb dX8_size_1 (by rw [c1_6]; decide) (by rw [c1_6]; decide) (by rw [c1_6]; decide) (by decide) ?_
    refine lv_aload_n hx hb dX8_size_116 rfl (lv_at hl 0 rfl) ?_
    refine va_get (D := D) (ci := 7) (v := .ref aH) (C := RX8) (T := TX8) (N := 9) hx hb ht0 niX8 hown hK hP 0 rfl rfl 5 (by decide) (ht0 _ wd522) (fun _ h9 => h9) rfl dX8_size_117 ?_
    refine va_get (D := D) (ci := 3) (v := .int (vH 4)) (C := RX4) (T := TX4) (N := 20) hx hb ht0 niX4 hown hK hP 1 rfl rfl 4 (by decide) (ht0 _ wd724) (fun _ h9 => h9) rfl dX8_size_120 ?_
    cases hok
    exact W.iret hx hb hr (fun t ht hW => ⟨⟨_, (), rfl, rfl, by rw [ht]; exact hP, va_K.moved hW.alike hK, hD⟩, hS.F ht⟩) hS.2.2 dX8_size_123
  have hok := k_neg c1_6 hok
  by_cases c1_7 : x1 = 7
  · have hok := k_pos c1_7 hok
    refine lv_tableIn (tgt := 124) (off := 123) hx hb dX8_size_1 (by rw [c1_7]; decide) (by rw [c1_7]; decide) (by rw [c1_7]; decide) (by decide) ?_
    refine lv_aload_n hx hb dX8_size_124 rfl (lv_at hl 0 rfl) ?_
    refine va_get (D := D) (ci := 7) (v := .ref aH) (C := RX8) (T := TX8) (N := 9) hx hb ht0 niX8 hown hK hP 0 rfl rfl 5 (by decide) (ht0 _ wd522) (fun _ h9 => h9) rfl dX8_size_125 ?_
    refine va_get (D := D) (ci := 3) (v := .ref (qH 7)) (C := RX4) (T := TX4) (N := 20) hx hb ht0 niX4 hown hK hP 1 rfl rfl 7 (by decide) (ht0 _ wd633) (fun _ h9 => h9) rfl dX8_size_128 ?_
    obtain ⟨r131, hc131, hok⟩ := k_bind hok
    refine kCi (wc := (wX7_count cy (qH 7) qU vU)) (wc2 := (wX7_count cy (qH 7) qU vU)) (wr := [(aN, oX8 vN qN aH), (aH, oX4 vH qH), (qH 9, rI cy 4 vH_places), (qN 1, oX1 vD qD), (qD 0, rI cy 9 vD_now), (qN 0, oX5 vR qR vR_j11 aH0)]) (ws2 := (wX8_size cy aN qN aH qH qU qD qR aH0 aH aH0 vN vH vH_places vU vD vD_now vR_j11 vR)) (kRunV (As := []) (rest := []) ⟨hx, hb, hml, hown, ht0⟩ (kX7_count l D cy _ (qH 7) qU vU r131 hc131 _ rfl) (cwV 0 ht0 (gV wd725 wd354 wd355 wd218 wd356) rfl rfl rfl (by decide +kernel) ⟨Nat.le_of_ble_eq_true rfl, Nat.le_of_ble_eq_true rfl⟩) hK hN hP hD [3] rfl (by decide) 3 6 rfl rfl rfl hl.1 rfl (Nat.le_of_ble_eq_true rfl) dX8_size_131 ⟨Nat.zero_le _, Nat.zero_le _⟩) hP hD hS hA [3] [0, 1, 2, 4, 5, 6] rfl rfl (by decide) (by decide) [0, 1, 2, 6, 3, 4, 5] (by decide) rfl rfl (fun H locs hP hD hS => ?_)
    cases hok
    exact W.iret hx hb hr (fun t ht hW => ⟨⟨_, (), rfl, rfl, by rw [ht]; exact hP, va_K.moved hW.alike hK, hD⟩, hS.F ht⟩) hS.2.2 dX8_size_134
  have hok := k_neg c1_7 hok
  by_cases c1_8 : x1 = 8
  · have hok := k_pos c1_8 hok
    refine lv_tableIn (tgt := 135) (off := 134) hx hb dX8_size_1 (by rw [c1_8]; decide) (by rw [c1_8]; decide) (by rw [c1_8]; decide) (by decide) ?_
    refine lv_aload_n hx hb dX8_size_135 rfl (lv_at hl 0 rfl) ?_
    refine va_get (D := D) (ci := 7) (v := .ref aH) (C := RX8) (T := TX8) (N := 9) hx hb ht0 niX8 hown hK hP 0 rfl rfl 5 (by decide) (ht0 _ wd522) (fun _ h9 => h9) rfl dX8_size_136 ?_
    refine va_get (D := D) (ci := 3) (v := .int (vH 6)) (C := RX4) (T := TX4) (N := 20) hx hb ht0 niX4 hown hK hP 1 rfl rfl 6 (by decide) (ht0 _ wd726) (fun _ h9 => h9) rfl dX8_size_139 ?_
    cases hok
    exact W.iret hx hb hr (fun t ht hW => ⟨⟨_, (), rfl, rfl, by rw [ht]; exact hP, va_K.moved hW.alike hK, hD⟩, hS.F ht⟩) hS.2.2 dX8_size_142
  have hok := k_neg c1_8 hok
  by_cases c1_9 : x1 = 9
  · have hok := k_pos c1_9 hok
    refine lv_tableIn (tgt := 143) (off := 142) hx hb dX8_size_1 (by rw [c1_9]; decide) (by rw [c1_9]; decide) (by rw [c1_9]; decide) (by decide) ?_
    refine lv_aload_n hx hb dX8_size_143 rfl (lv_at hl 0 rfl) ?_
    refine va_get (D := D) (ci := 7) (v := .ref (qN 1)) (C := RX8) (T := TX8) (N := 9) hx hb ht0 niX8 hown hK hP 0 rfl rfl 1 (by decide) (ht0 _ wd527) (fun _ h9 => h9) rfl dX8_size_144 ?_
    obtain ⟨r147, hc147, hok⟩ := k_bind hok
    refine kCi (wc := (wX1_nightNow cy (qN 1) qD vD vD_now)) (wc2 := (wX1_nightNow cy (qN 1) qD vD vD_now)) (wr := [(aN, oX8 vN qN aH), (aH, oX4 vH qH), (qH 9, rI cy 4 vH_places), (qH 7, oX7 vU qU), (qN 0, oX5 vR qR vR_j11 aH0)]) (ws2 := (wX8_size cy aN qN aH qH qU qD qR aH0 aH aH0 vN vH vH_places vU vD vD_now vR_j11 vR)) (kRunV (As := []) (rest := []) ⟨hx, hb, hml, hown, ht0⟩ (kX1_nightNow l D cy _ (qN 1) qD vD vD_now r147 hc147 _ rfl) (cwV 0 ht0 (gV wd704 wd117 wd118 wd74 wd119) rfl rfl rfl (by decide +kernel) ⟨Nat.le_of_ble_eq_true rfl, Nat.le_of_ble_eq_true rfl⟩) hK hN hP hD [4, 5] rfl (by decide) 4 1 rfl rfl rfl hl.1 rfl (Nat.le_of_ble_eq_true rfl) dX8_size_147 ⟨Nat.zero_le _, Nat.zero_le _⟩) hP hD hS hA [4, 5] [0, 1, 2, 3, 6] rfl rfl (by decide) (by decide) [0, 1, 2, 3, 5, 6, 4] (by decide) rfl rfl (fun H locs hP hD hS => ?_)
    cases hok
    exact W.iret hx hb hr (fun t ht hW => ⟨⟨_, (), rfl, rfl, by rw [ht]; exact hP, va_K.moved hW.alike hK, hD⟩, hS.F ht⟩) hS.2.2 dX8_size_150
  have hok := k_neg c1_9 hok
  by_cases c1_10 : x1 = 10
  · have hok := k_pos c1_10 hok
    refine lv_tableIn (tgt := 151) (off := 150) hx hb dX8_size_1 (by rw [c1_10]; decide) (by rw [c1_10]; decide) (by rw [c1_10]; decide) (by decide) ?_
    refine lv_aload_n hx hb dX8_size_151 rfl (lv_at hl 0 rfl) ?_
    refine va_get (D := D) (ci := 7) (v := .ref (qN 1)) (C := RX8) (T := TX8) (N := 9) hx hb ht0 niX8 hown hK hP 0 rfl rfl 1 (by decide) (ht0 _ wd527) (fun _ h9 => h9) rfl dX8_size_152 ?_
    obtain ⟨r155, hc155, hok⟩ := k_bind hok
    refine kCi (wc := (wX1_countKept cy (qN 1) qD vD)) (wc2 := (wX1_countKept cy (qN 1) qD vD)) (wr := [(aN, oX8 vN qN aH), (aH, oX4 vH qH), (qH 9, rI cy 4 vH_places), (qH 7, oX7 vU qU), (qD 0, rI cy 9 vD_now), (qN 0, oX5 vR qR vR_j11 aH0)]) (ws2 := (wX8_size cy aN qN aH qH qU qD qR aH0 aH aH0 vN vH vH_places vU vD vD_now vR_j11 vR)) (kRunV (As := []) (rest := []) ⟨hx, hb, hml, hown, ht0⟩ (kX1_countKept l D cy _ (qN 1) qD vD r155 hc155 _ rfl) (cwV 0 ht0 (gV wd727 wd728 wd729 wd74 wd730) rfl rfl rfl (by decide +kernel) ⟨Nat.le_of_ble_eq_true rfl, Nat.le_of_ble_eq_true rfl⟩) hK hN hP hD [4] rfl (by decide) 4 1 rfl rfl rfl hl.1 rfl (Nat.le_of_ble_eq_true rfl) dX8_size_155 ⟨Nat.zero_le _, Nat.zero_le _⟩) hP hD hS hA [4] [0, 1, 2, 3, 5, 6] rfl rfl (by decide) (by decide) [0, 1, 2, 3, 6, 4, 5] (by decide) rfl rfl (fun H locs hP hD hS => ?_)
    cases hok
    exact W.iret hx hb hr (fun t ht hW => ⟨⟨_, (), rfl, rfl, by rw [ht]; exact hP, va_K.moved hW.alike hK, hD⟩, hS.F ht⟩) hS.2.2 dX8_size_158
  have hok := k_neg c1_10 hok
  by_cases c1_11 : x1 = 11
  · have hok := k_pos c1_11 hok
    refine lv_tableIn (tgt := 159) (off := 158) hx hb dX8_size_1 (by rw [c1_11]; decide) (by rw [c1_11]; decide) (by rw [c1_11]; decide) (by decide) ?_
    refine lv_aload_n hx hb dX8_size_159 rfl (lv_at hl 0 rfl) ?_
    refine va_get (D := D) (ci := 7) (v := .ref (qN 1)) (C := RX8) (T := TX8) (N := 9) hx hb ht0 niX8 hown hK hP 0 rfl rfl 1 (by decide) (ht0 _ wd527) (fun _ h9 => h9) rfl dX8_size_160 ?_
    obtain ⟨r163, hc163, hok⟩ := k_bind hok
    refine kCi (wc := (wX1_countImages cy (qN 1) qD vD)) (wc2 := (wX1_countImages cy (qN 1) qD vD)) (wr := [(aN, oX8 vN qN aH), (aH, oX4 vH qH), (qH 9, rI cy 4 vH_places), (qH 7, oX7 vU qU), (qD 0, rI cy 9 vD_now), (qN 0, oX5 vR qR vR_j11 aH0)]) (ws2 := (wX8_size cy aN qN aH qH qU qD qR aH0 aH aH0 vN vH vH_places vU vD vD_now vR_j11 vR)) (kRunV (As := []) (rest := []) ⟨hx, hb, hml, hown, ht0⟩ (kX1_countImages l D cy _ (qN 1) qD vD r163 hc163 _ rfl) (cwV 0 ht0 (gV wd731 wd732 wd733 wd74 wd734) rfl rfl rfl (by decide +kernel) ⟨Nat.le_of_ble_eq_true rfl, Nat.le_of_ble_eq_true rfl⟩) hK hN hP hD [4] rfl (by decide) 4 1 rfl rfl rfl hl.1 rfl (Nat.le_of_ble_eq_true rfl) dX8_size_163 ⟨Nat.zero_le _, Nat.zero_le _⟩) hP hD hS hA [4] [0, 1, 2, 3, 5, 6] rfl rfl (by decide) (by decide) [0, 1, 2, 3, 6, 4, 5] (by decide) rfl rfl (fun H locs hP hD hS => ?_)
    cases hok
    exact W.iret hx hb hr (fun t ht hW => ⟨⟨_, (), rfl, rfl, by rw [ht]; exact hP, va_K.moved hW.alike hK, hD⟩, hS.F ht⟩) hS.2.2 dX8_size_166
  have hok := k_neg c1_11 hok
  by_cases c1_12 : x1 = 12
  · have hok := k_pos c1_12 hok
    refine lv_tableIn (tgt := 167) (off := 166) hx hb dX8_size_1 (by rw [c1_12]; decide) (by rw [c1_12]; decide) (by rw [c1_12]; decide) (by decide) ?_
    refine lv_aload_n hx hb dX8_size_167 rfl (lv_at hl 0 rfl) ?_
    refine va_get (D := D) (ci := 7) (v := .ref (qN 0)) (C := RX8) (T := TX8) (N := 9) hx hb ht0 niX8 hown hK hP 0 rfl rfl 0 (by decide) (ht0 _ wd490) (fun _ h9 => h9) rfl dX8_size_168 ?_
    obtain ⟨r171, hc171, hok⟩ := k_bind hok
    refine kCi (wc := (wX5_count cy (qN 0) qR aH0 aH0 vR_j11 vR)) (wc2 := (wX5_count cy (qN 0) qR aH0 aH0 vR_j11 vR)) (wr := [(aN, oX8 vN qN aH), (aH, oX4 vH qH), (qH 9, rI cy 4 vH_places), (qH 7, oX7 vU qU), (qN 1, oX1 vD qD), (qD 0, rI cy 9 vD_now)]) (ws2 := (wX8_size cy aN qN aH qH qU qD qR aH0 aH aH0 vN vH vH_places vU vD vD_now vR_j11 vR)) (kRunV (As := []) (rest := []) ⟨hx, hb, hml, hown, ht0⟩ (kX5_count l D cy _ (qN 0) qR aH0 vR_j11 vR r171 hc171 _ rfl) (cwV 0 ht0 (gV wd499 wd500 wd501 wd276 wd502) rfl rfl rfl (by decide +kernel) ⟨Nat.le_of_ble_eq_true rfl, Nat.le_of_ble_eq_true rfl⟩) hK hN hP hD [6] rfl (by decide) 6 4 rfl rfl rfl hl.1 rfl (Nat.le_of_ble_eq_true rfl) dX8_size_171 ⟨Nat.zero_le _, Nat.zero_le _⟩) hP hD hS hA [6] [0, 1, 2, 3, 4, 5] rfl rfl (by decide) (by decide) [0, 1, 2, 3, 4, 5, 6] (by decide) rfl rfl (fun H locs hP hD hS => ?_)
    cases hok
    exact W.iret hx hb hr (fun t ht hW => ⟨⟨_, (), rfl, rfl, by rw [ht]; exact hP, va_K.moved hW.alike hK, hD⟩, hS.F ht⟩) hS.2.2 dX8_size_174
  have hok := k_neg c1_12 hok
  refine lv_tableOut (tgt := 175) hx hb dX8_size_1 (by have q0 := lv_neT c1_0 (a := 0) (by decide); have q1 := lv_neT c1_1 (a := 1) (by decide); have q2 := lv_neT c1_2 (a := 2) (by decide); have q3 := lv_neT c1_3 (a := 3) (by decide); have q4 := lv_neT c1_4 (a := 4) (by decide); have q5 := lv_neT c1_5 (a := 5) (by decide); have q6 := lv_neT c1_6 (a := 6) (by decide); have q7 := lv_neT c1_7 (a := 7) (by decide); have q8 := lv_neT c1_8 (a := 8) (by decide); have q9 := lv_neT c1_9 (a := 9) (by decide); have q10 := lv_neT c1_10 (a := 10) (by decide); have q11 := lv_neT c1_11 (a := 11) (by decide); have q12 := lv_neT c1_12 (a := 12) (by decide); omega) (by decide) ?_
  refine lv_iconst (v := -1) hx hb dX8_size_175 (by decide) ?_
  cases hok
  exact W.iret hx hb hr (fun t ht hW => ⟨⟨_, (), rfl, rfl, by rw [ht]; exact hP, va_K.moved hW.alike hK, hD⟩, hS.F ht⟩) hS.2.2 dX8_size_176
def wsX8_trouble : List Cond := .code yX8_trouble cX8_trouble 1 (some .int) :: W0
abbrev wX8_trouble (cy : Nat → ClassId) (aN : Nat) (qN : Nat → Nat) (aH : Nat) (fvN_5 : Nat) (vN : Nat → Int32) : va_W := [(aN, oX8 vN qN fvN_5)]
set_option maxHeartbeats 4000000 in
set_option maxRecDepth 100000 in
theorem kX8_trouble (l : Launch) (D : va_G) (cy : Nat → ClassId) (sz : Nat) (aN : Nat) (qN : Nat → Nat) (aH : Nat) (vN : Nat → Int32) (zr : Int32) (hok : fX8_trouble vN = some zr) (A : Nat → Prop) (hAe : va_A (wX8_trouble cy aN qN aH aH vN) sz = A) : Met l yX8_trouble wsX8_trouble ({ frames := 0, cells := 0, slots := 0, locals := 0 } : Room) (kPre D cy [.ref aN] (wX8_trouble cy aN qN aH aH vN) sz) (kQi D cy zr A (wX8_trouble cy aN qN aH aH vN)) 0 0 A := by
  refine Met.ofW (cc := cX8_trouble) (maxL := 1) (ret := (some .int)) (by decide) rfl ?_
  intro p e s m args below meth c s₁ B hml hv
  obtain ⟨rfl, hsz, hP, hK, hD0, hN⟩ := hv
  have hx := B.exec
  have hb := B.bytes
  have hr := B.returns
  have ht0 : ∀ w ∈ W0, w.before _ s = true := fun w h => atoms_spec (ws := wsX8_trouble) B.pre w (List.mem_cons_of_mem _ h)
  have hown : s.vm.findClass RX8 = some m.cls := findClass_of_methodNamed B.named
  have hlocks := B.notSynchronized
  subst hsz
  have hD : va_D A (wX8_trouble cy aN qN aH aH vN) := by rw [← hAe]; exact hD0.self
  have hA : ∀ q : Nat, s.heap.size ≤ q → A q := fun q h => by rw [← hAe]; exact Or.inr h
  have hS : va_S A s.heap s.heap [] := va_S.rf
  have hl := lv_entry ([.ref aN]) (n := 1) (Nat.le_of_ble_eq_true rfl)
  rw [lg_entry_eq]
  generalize (lg_sl ([.ref aN]) ++ List.replicate (1 - (lg_sl ([.ref aN])).length) Slot.unset).toArray = ls at hl ⊢
  have hl : lv_has ls 1 [(0, .ref aN)] := hl
  unfold fX8_trouble at hok
  obtain ⟨H, hH⟩ : ∃ H, H = s.heap := ⟨_, rfl⟩
  obtain ⟨locs, hlc⟩ : ∃ x : List Loc, x = [] := ⟨_, rfl⟩
  have hP : va_P D vwCl (wX8_trouble cy aN qN aH aH vN) H := by rw [hH]; exact hP
  have hS : va_S A s.heap H locs := by rw [hH, hlc]; exact hS
  rw [show W p l e _ s m _ below meth c s.heap [] = W p l e _ s m _ below meth c H locs from by rw [hH, hlc]]
  refine lv_aload_n hx hb dX8_trouble_0 rfl (lv_at hl 0 rfl) ?_
  refine va_get (D := D) (ci := 7) (v := .int (vN 6)) (C := RX8) (T := TX8) (N := 9) hx hb ht0 niX8 hown hK hP 0 rfl rfl 6 (by decide) (ht0 _ wd503) (fun _ h9 => h9) rfl dX8_trouble_1 ?_
  cases hok
  exact W.iret hx hb hr (fun t ht hW => ⟨⟨_, (), rfl, rfl, by rw [ht]; exact hP, va_K.moved hW.alike hK, hD⟩, hS.F ht⟩) hS.2.2 dX8_trouble_4
def wsX9_thrown : List Cond := .code yX9_thrown cX9_thrown 1 (some .int) :: W0
abbrev wX9_thrown (cy : Nat → ClassId) (aM : Nat) (qM : Nat → Nat) (vM : Nat → Int32) : va_W := [(aM, oX9 vM qM)]
set_option maxHeartbeats 4000000 in
set_option maxRecDepth 100000 in
theorem kX9_thrown (l : Launch) (D : va_G) (cy : Nat → ClassId) (sz : Nat) (aM : Nat) (qM : Nat → Nat) (vM : Nat → Int32) (zr : Int32) (hok : fX9_thrown vM = some zr) (A : Nat → Prop) (hAe : va_A (wX9_thrown cy aM qM vM) sz = A) : Met l yX9_thrown wsX9_thrown ({ frames := 0, cells := 0, slots := 0, locals := 0 } : Room) (kPre D cy [.ref aM] (wX9_thrown cy aM qM vM) sz) (kQi D cy zr A (wX9_thrown cy aM qM vM)) 0 0 A := by
  refine Met.ofW (cc := cX9_thrown) (maxL := 1) (ret := (some .int)) (by decide) rfl ?_
  intro p e s m args below meth c s₁ B hml hv
  obtain ⟨rfl, hsz, hP, hK, hD0, hN⟩ := hv
  have hx := B.exec
  have hb := B.bytes
  have hr := B.returns
  have ht0 : ∀ w ∈ W0, w.before _ s = true := fun w h => atoms_spec (ws := wsX9_thrown) B.pre w (List.mem_cons_of_mem _ h)
  have hown : s.vm.findClass RX9 = some m.cls := findClass_of_methodNamed B.named
  have hlocks := B.notSynchronized
  subst hsz
  have hD : va_D A (wX9_thrown cy aM qM vM) := by rw [← hAe]; exact hD0.self
  have hA : ∀ q : Nat, s.heap.size ≤ q → A q := fun q h => by rw [← hAe]; exact Or.inr h
  have hS : va_S A s.heap s.heap [] := va_S.rf
  have hl := lv_entry ([.ref aM]) (n := 1) (Nat.le_of_ble_eq_true rfl)
  rw [lg_entry_eq]
  generalize (lg_sl ([.ref aM]) ++ List.replicate (1 - (lg_sl ([.ref aM])).length) Slot.unset).toArray = ls at hl ⊢
  have hl : lv_has ls 1 [(0, .ref aM)] := hl
  unfold fX9_thrown at hok
  obtain ⟨H, hH⟩ : ∃ H, H = s.heap := ⟨_, rfl⟩
  obtain ⟨locs, hlc⟩ : ∃ x : List Loc, x = [] := ⟨_, rfl⟩
  have hP : va_P D vwCl (wX9_thrown cy aM qM vM) H := by rw [hH]; exact hP
  have hS : va_S A s.heap H locs := by rw [hH, hlc]; exact hS
  rw [show W p l e _ s m _ below meth c s.heap [] = W p l e _ s m _ below meth c H locs from by rw [hH, hlc]]
  refine lv_aload_n hx hb dX9_thrown_0 rfl (lv_at hl 0 rfl) ?_
  refine va_get (D := D) (ci := 8) (v := .int (vM 0)) (C := RX9) (T := TX9) (N := 29) hx hb ht0 niX9 hown hK hP 0 rfl rfl 0 (by decide) (ht0 _ wd735) (fun _ h9 => h9) rfl dX9_thrown_1 ?_
  cases hok
  exact W.iret hx hb hr (fun t ht hW => ⟨⟨_, (), rfl, rfl, by rw [ht]; exact hP, va_K.moved hW.alike hK, hD⟩, hS.F ht⟩) hS.2.2 dX9_thrown_4
def wsX9_good : List Cond := .code yX9_good cX9_good 1 none :: W0
abbrev wX9_good (cy : Nat → ClassId) (aM : Nat) (qM : Nat → Nat) (vM : Nat → Int32) : va_W := [(aM, oX9 vM qM)]
set_option maxHeartbeats 4000000 in
set_option maxRecDepth 100000 in
theorem kX9_good (l : Launch) (D : va_G) (cy : Nat → ClassId) (sz : Nat) (aM : Nat) (qM : Nat → Nat) (vM : Nat → Int32) (z_vM : Nat → Int32) (hok : fX9_good vM = some z_vM) (A : Nat → Prop) (hAe : va_A (wX9_good cy aM qM vM) sz = A) : Met l yX9_good wsX9_good ({ frames := 0, cells := 0, slots := 0, locals := 0 } : Room) (kPre D cy [.ref aM] (wX9_good cy aM qM vM) sz) (kQv D cy A (wX9_good cy aM qM z_vM)) 0 0 A := by
  refine Met.ofW (cc := cX9_good) (maxL := 1) (ret := none) (by decide) rfl ?_
  intro p e s m args below meth c s₁ B hml hv
  obtain ⟨rfl, hsz, hP, hK, hD0, hN⟩ := hv
  have hx := B.exec
  have hb := B.bytes
  have hr := B.returns
  have ht0 : ∀ w ∈ W0, w.before _ s = true := fun w h => atoms_spec (ws := wsX9_good) B.pre w (List.mem_cons_of_mem _ h)
  have hown : s.vm.findClass RX9 = some m.cls := findClass_of_methodNamed B.named
  have hlocks := B.notSynchronized
  subst hsz
  have hD : va_D A (wX9_good cy aM qM vM) := by rw [← hAe]; exact hD0.self
  have hA : ∀ q : Nat, s.heap.size ≤ q → A q := fun q h => by rw [← hAe]; exact Or.inr h
  have hS : va_S A s.heap s.heap [] := va_S.rf
  have hl := lv_entry ([.ref aM]) (n := 1) (Nat.le_of_ble_eq_true rfl)
  rw [lg_entry_eq]
  generalize (lg_sl ([.ref aM]) ++ List.replicate (1 - (lg_sl ([.ref aM])).length) Slot.unset).toArray = ls at hl ⊢
  have hl : lv_has ls 1 [(0, .ref aM)] := hl
  unfold fX9_good at hok
  obtain ⟨H, hH⟩ : ∃ H, H = s.heap := ⟨_, rfl⟩
  obtain ⟨locs, hlc⟩ : ∃ x : List Loc, x = [] := ⟨_, rfl⟩
  have hP : va_P D vwCl (wX9_good cy aM qM vM) H := by rw [hH]; exact hP
  have hS : va_S A s.heap H locs := by rw [hH, hlc]; exact hS
  rw [show W p l e _ s m _ below meth c s.heap [] = W p l e _ s m _ below meth c H locs from by rw [hH, hlc]]
  refine lv_aload_n hx hb dX9_good_0 rfl (lv_at hl 0 rfl) ?_
  refine lv_iconst (v := 0) hx hb dX9_good_1 (by decide) ?_
  refine va_put (D := D) (ci := 8) (v := .int 0) (ty := .int) (C := RX9) (T := TX9) (N := 29) hx hb ht0 niX9 tyX9 tyX9_ok nmX9 hown hK hP hD hS 0 rfl rfl 0 (by decide) (ht0 _ wd735) (fun _ h9 => h9) rfl (by decide +kernel) rfl rfl (Nat.le_of_ble_eq_true rfl) dX9_good_2 (fun H locs hP hD hS => ?_)
  have hP : va_P D vwCl (wX9_good cy aM qM (upd vM 0 (0 : Int32))) H := hP
  have hD : va_D A (wX9_good cy aM qM (upd vM 0 (0 : Int32))) := hD
  refine lv_aload_n hx hb dX9_good_5 rfl (lv_at hl 0 rfl) ?_
  refine lv_iconst (v := 0) hx hb dX9_good_6 (by decide) ?_
  refine va_put (D := D) (ci := 8) (v := .int 0) (ty := .int) (C := RX9) (T := TX9) (N := 29) hx hb ht0 niX9 tyX9 tyX9_ok nmX9 hown hK hP hD hS 0 rfl rfl 11 (by decide) (ht0 _ wd736) (fun _ h9 => h9) rfl (by decide +kernel) rfl rfl (Nat.le_of_ble_eq_true rfl) dX9_good_7 (fun H locs hP hD hS => ?_)
  have hP : va_P D vwCl (wX9_good cy aM qM (upd (upd vM 0 (0 : Int32)) 11 (0 : Int32))) H := hP
  have hD : va_D A (wX9_good cy aM qM (upd (upd vM 0 (0 : Int32)) 11 (0 : Int32))) := hD
  cases hok
  exact W.vret hx hb hr (fun t ht hW => ⟨⟨(), rfl, trivial, by rw [ht]; exact hP, va_K.moved hW.alike hK, hD⟩, hS.F ht⟩) hS.2.2 dX9_good_10
def wsX9_no : List Cond := .code yX9_no cX9_no 2 (some .int) :: W0
abbrev wX9_no (cy : Nat → ClassId) (aM : Nat) (qM : Nat → Nat) (vM : Nat → Int32) : va_W := [(aM, oX9 vM qM)]
set_option maxHeartbeats 4000000 in
set_option maxRecDepth 100000 in
theorem kX9_no (l : Launch) (D : va_G) (cy : Nat → ClassId) (sz : Nat) (aM : Nat) (qM : Nat → Nat) (vM : Nat → Int32) (x1 : Int32) (zr : Int32) (z_vM : Nat → Int32) (hok : fX9_no vM x1 = some (zr, z_vM)) (A : Nat → Prop) (hAe : va_A (wX9_no cy aM qM vM) sz = A) : Met l yX9_no wsX9_no ({ frames := 0, cells := 0, slots := 0, locals := 0 } : Room) (kPre D cy [.ref aM, .int x1] (wX9_no cy aM qM vM) sz) (kQi D cy zr A (wX9_no cy aM qM z_vM)) 0 0 A := by
  refine Met.ofW (cc := cX9_no) (maxL := 2) (ret := (some .int)) (by decide) rfl ?_
  intro p e s m args below meth c s₁ B hml hv
  obtain ⟨rfl, hsz, hP, hK, hD0, hN⟩ := hv
  have hx := B.exec
  have hb := B.bytes
  have hr := B.returns
  have ht0 : ∀ w ∈ W0, w.before _ s = true := fun w h => atoms_spec (ws := wsX9_no) B.pre w (List.mem_cons_of_mem _ h)
  have hown : s.vm.findClass RX9 = some m.cls := findClass_of_methodNamed B.named
  have hlocks := B.notSynchronized
  subst hsz
  have hD : va_D A (wX9_no cy aM qM vM) := by rw [← hAe]; exact hD0.self
  have hA : ∀ q : Nat, s.heap.size ≤ q → A q := fun q h => by rw [← hAe]; exact Or.inr h
  have hS : va_S A s.heap s.heap [] := va_S.rf
  have hl := lv_entry ([.ref aM, .int x1]) (n := 2) (Nat.le_of_ble_eq_true rfl)
  rw [lg_entry_eq]
  generalize (lg_sl ([.ref aM, .int x1]) ++ List.replicate (2 - (lg_sl ([.ref aM, .int x1])).length) Slot.unset).toArray = ls at hl ⊢
  have hl : lv_has ls 2 [(0, .ref aM), (1, .int x1)] := hl
  unfold fX9_no at hok
  obtain ⟨H, hH⟩ : ∃ H, H = s.heap := ⟨_, rfl⟩
  obtain ⟨locs, hlc⟩ : ∃ x : List Loc, x = [] := ⟨_, rfl⟩
  have hP : va_P D vwCl (wX9_no cy aM qM vM) H := by rw [hH]; exact hP
  have hS : va_S A s.heap H locs := by rw [hH, hlc]; exact hS
  rw [show W p l e _ s m _ below meth c s.heap [] = W p l e _ s m _ below meth c H locs from by rw [hH, hlc]]
  refine lv_aload_n hx hb dX9_no_0 rfl (lv_at hl 0 rfl) ?_
  refine lv_iload_n hx hb dX9_no_1 rfl (lv_at hl 1 rfl) ?_
  refine va_put (D := D) (ci := 8) (v := .int x1) (ty := .int) (C := RX9) (T := TX9) (N := 29) hx hb ht0 niX9 tyX9 tyX9_ok nmX9 hown hK hP hD hS 0 rfl rfl 11 (by decide) (ht0 _ wd736) (fun _ h9 => h9) rfl (by decide +kernel) rfl rfl (Nat.le_of_ble_eq_true rfl) dX9_no_2 (fun H locs hP hD hS => ?_)
  have hP : va_P D vwCl (wX9_no cy aM qM (upd vM 11 x1)) H := hP
  have hD : va_D A (wX9_no cy aM qM (upd vM 11 x1)) := hD
  refine lv_iconst (v := -1) hx hb dX9_no_5 (by decide) ?_
  cases hok
  exact W.iret hx hb hr (fun t ht hW => ⟨⟨_, (), rfl, rfl, by rw [ht]; exact hP, va_K.moved hW.alike hK, hD⟩, hS.F ht⟩) hS.2.2 dX9_no_6
def wsX9_isNot : List Cond := .code yX9_isNot cX9_isNot 2 (some .boolean) :: W0
abbrev wX9_isNot (cy : Nat → ClassId) (aM : Nat) (qM : Nat → Nat) (vM : Nat → Int32) : va_W := [(aM, oX9 vM qM)]
set_option maxHeartbeats 4000000 in
set_option maxRecDepth 100000 in
theorem kX9_isNot (l : Launch) (D : va_G) (cy : Nat → ClassId) (sz : Nat) (aM : Nat) (qM : Nat → Nat) (vM : Nat → Int32) (x1 : Int32) (zr : Int32) (z_vM : Nat → Int32) (hok : fX9_isNot vM x1 = some (zr, z_vM)) (A : Nat → Prop) (hAe : va_A (wX9_isNot cy aM qM vM) sz = A) : Met l yX9_isNot wsX9_isNot ({ frames := 0, cells := 0, slots := 0, locals := 0 } : Room) (kPre D cy [.ref aM, .int x1] (wX9_isNot cy aM qM vM) sz) (kQi D cy zr A (wX9_isNot cy aM qM z_vM)) 0 0 A := by
  refine Met.ofW (cc := cX9_isNot) (maxL := 2) (ret := (some .boolean)) (by decide) rfl ?_
  intro p e s m args below meth c s₁ B hml hv
  obtain ⟨rfl, hsz, hP, hK, hD0, hN⟩ := hv
  have hx := B.exec
  have hb := B.bytes
  have hr := B.returns
  have ht0 : ∀ w ∈ W0, w.before _ s = true := fun w h => atoms_spec (ws := wsX9_isNot) B.pre w (List.mem_cons_of_mem _ h)
  have hown : s.vm.findClass RX9 = some m.cls := findClass_of_methodNamed B.named
  have hlocks := B.notSynchronized
  subst hsz
  have hD : va_D A (wX9_isNot cy aM qM vM) := by rw [← hAe]; exact hD0.self
  have hA : ∀ q : Nat, s.heap.size ≤ q → A q := fun q h => by rw [← hAe]; exact Or.inr h
  have hS : va_S A s.heap s.heap [] := va_S.rf
  have hl := lv_entry ([.ref aM, .int x1]) (n := 2) (Nat.le_of_ble_eq_true rfl)
  rw [lg_entry_eq]
  generalize (lg_sl ([.ref aM, .int x1]) ++ List.replicate (2 - (lg_sl ([.ref aM, .int x1])).length) Slot.unset).toArray = ls at hl ⊢
  have hl : lv_has ls 2 [(0, .ref aM), (1, .int x1)] := hl
  unfold fX9_isNot at hok
  obtain ⟨H, hH⟩ : ∃ H, H = s.heap := ⟨_, rfl⟩
  obtain ⟨locs, hlc⟩ : ∃ x : List Loc, x = [] := ⟨_, rfl⟩
  have hP : va_P D vwCl (wX9_isNot cy aM qM vM) H := by rw [hH]; exact hP
  have hS : va_S A s.heap H locs := by rw [hH, hlc]; exact hS
  rw [show W p l e _ s m _ below meth c s.heap [] = W p l e _ s m _ below meth c H locs from by rw [hH, hlc]]
  refine lv_aload_n hx hb dX9_isNot_0 rfl (lv_at hl 0 rfl) ?_
  refine lv_iload_n hx hb dX9_isNot_1 rfl (lv_at hl 1 rfl) ?_
  refine va_put (D := D) (ci := 8) (v := .int x1) (ty := .int) (C := RX9) (T := TX9) (N := 29) hx hb ht0 niX9 tyX9 tyX9_ok nmX9 hown hK hP hD hS 0 rfl rfl 11 (by decide) (ht0 _ wd736) (fun _ h9 => h9) rfl (by decide +kernel) rfl rfl (Nat.le_of_ble_eq_true rfl) dX9_isNot_2 (fun H locs hP hD hS => ?_)
  have hP : va_P D vwCl (wX9_isNot cy aM qM (upd vM 11 x1)) H := hP
  have hD : va_D A (wX9_isNot cy aM qM (upd vM 11 x1)) := hD
  refine lv_iconst (v := 0) hx hb dX9_isNot_5 (by decide) ?_
  cases hok
  exact W.zret hx hb hr rfl (fun t ht hW => ⟨⟨_, (), rfl, rfl, by rw [ht]; exact hP, va_K.moved hW.alike hK, hD⟩, hS.F ht⟩) hS.2.2 dX9_isNot_6
def wsX9_in : List Cond := .code yX9_in cX9_in 3 (some .boolean) :: W0
abbrev wX9_in (cy : Nat → ClassId)  : va_W := []
set_option maxHeartbeats 4000000 in
set_option maxRecDepth 100000 in
theorem kX9_in (l : Launch) (D : va_G) (cy : Nat → ClassId) (sz : Nat) (x0 : Int32) (x1 : Int32) (x2 : Int32) (zr : Int32) (hok : fX9_in x0 x1 x2 = some zr) (A : Nat → Prop) (hAe : va_A (wX9_in cy ) sz = A) : Met l yX9_in wsX9_in ({ frames := 0, cells := 0, slots := 0, locals := 0 } : Room) (kPre D cy [.int x0, .int x1, .int x2] (wX9_in cy ) sz) (kQi D cy zr A (wX9_in cy )) 0 0 A := by
  refine Met.ofW (cc := cX9_in) (maxL := 3) (ret := (some .boolean)) (by decide) rfl ?_
  intro p e s m args below meth c s₁ B hml hv
  obtain ⟨rfl, hsz, hP, hK, hD0, hN⟩ := hv
  have hx := B.exec
  have hb := B.bytes
  have hr := B.returns
  have ht0 : ∀ w ∈ W0, w.before _ s = true := fun w h => atoms_spec (ws := wsX9_in) B.pre w (List.mem_cons_of_mem _ h)
  have hown : s.vm.findClass RX9 = some m.cls := findClass_of_methodNamed B.named
  have hlocks := B.notSynchronized
  subst hsz
  have hD : va_D A (wX9_in cy ) := by rw [← hAe]; exact hD0.self
  have hA : ∀ q : Nat, s.heap.size ≤ q → A q := fun q h => by rw [← hAe]; exact Or.inr h
  have hS : va_S A s.heap s.heap [] := va_S.rf
  have hl := lv_entry ([.int x0, .int x1, .int x2]) (n := 3) (Nat.le_of_ble_eq_true rfl)
  rw [lg_entry_eq]
  generalize (lg_sl ([.int x0, .int x1, .int x2]) ++ List.replicate (3 - (lg_sl ([.int x0, .int x1, .int x2])).length) Slot.unset).toArray = ls at hl ⊢
  have hl : lv_has ls 3 [(0, .int x0), (1, .int x1), (2, .int x2)] := hl
  generalize hQe : MQ below (kQi D cy zr A (wX9_in cy )) ([.int x0, .int x1, .int x2] : List Value).toArray s 0 0 A = Q
  have J15 : ∀ (t0_15 : Int32), ∀ (H : Heap) (locs : List Loc) (ls : Array Slot), va_P D vwCl (wX9_in cy ) H → va_D A (wX9_in cy ) → va_S A s.heap H locs → lv_has ls 3 [] → fX9_in_J15 t0_15 = some zr → W p l e ({ frames := 0, cells := 0, slots := 0, locals := 0 } : Room) s m ([.int x0, .int x1, .int x2] : List Value).toArray below meth c H locs 0 0 Q (F0 m 15 ls [.int t0_15]) := by
    intro t0_15 H locs ls hP hD hS hl hok
    unfold fX9_in_J15 at hok
    obtain ⟨g15, hok⟩ := gd_some hok
    cases hok
    subst hQe; exact W.zret hx hb hr (isB_nar g15) (fun t ht hW => ⟨⟨_, (), rfl, rfl, by rw [ht]; exact hP, va_K.moved hW.alike hK, hD⟩, hS.F ht⟩) hS.2.2 dX9_in_15
  have J14 : ∀ (H : Heap) (locs : List Loc) (ls : Array Slot), va_P D vwCl (wX9_in cy ) H → va_D A (wX9_in cy ) → va_S A s.heap H locs → lv_has ls 3 [] → fX9_in_J14 = some zr → W p l e ({ frames := 0, cells := 0, slots := 0, locals := 0 } : Room) s m ([.int x0, .int x1, .int x2] : List Value).toArray below meth c H locs 0 0 Q (F0 m 14 ls []) := by
    intro  H locs ls hP hD hS hl hok
    unfold fX9_in_J14 at hok
    refine lv_iconst (v := 0) hx hb dX9_in_14 (by decide) ?_
    exact J15 (0 : Int32) H locs ls hP hD hS (lv_sub hl [] rfl) hok
  unfold fX9_in at hok
  obtain ⟨H, hH⟩ : ∃ H, H = s.heap := ⟨_, rfl⟩
  obtain ⟨locs, hlc⟩ : ∃ x : List Loc, x = [] := ⟨_, rfl⟩
  have hP : va_P D vwCl (wX9_in cy ) H := by rw [hH]; exact hP
  have hS : va_S A s.heap H locs := by rw [hH, hlc]; exact hS
  rw [show W p l e _ s m _ below meth c s.heap [] = W p l e _ s m _ below meth c H locs from by rw [hH, hlc]]
  refine lv_iload_n hx hb dX9_in_0 rfl (lv_at hl 0 rfl) ?_
  refine lv_iload_n hx hb dX9_in_1 rfl (lv_at hl 1 rfl) ?_
  refine lv_icmp_lt (tgt := 14) hx hb dX9_in_2 (by decide) (fun c2 => ?_) (fun c2 => ?_)
  · have hok := k_pos c2 hok
    exact J14  H locs ls hP hD hS (lv_sub hl [] rfl) hok
  · have hok := k_neg c2 hok
    refine lv_iload_n hx hb dX9_in_5 rfl (lv_at hl 0 rfl) ?_
    refine lv_iload_n hx hb dX9_in_6 rfl (lv_at hl 2 rfl) ?_
    refine lv_icmp_gt (tgt := 14) hx hb dX9_in_7 (by decide) (fun c7 => ?_) (fun c7 => ?_)
    · have hok := k_pos c7 hok
      exact J14  H locs ls hP hD hS (lv_sub hl [] rfl) hok
    · have hok := k_neg c7 hok
      refine lv_iconst (v := 1) hx hb dX9_in_10 (by decide) ?_
      refine lv_goto (tgt := 15) hx hb dX9_in_11 (by decide) ?_
      exact J15 (1 : Int32) H locs ls hP hD hS (lv_sub hl [] rfl) hok
def wsX9_hasBit : List Cond := .code yX9_hasBit cX9_hasBit 2 (some .boolean) :: W0
abbrev wX9_hasBit (cy : Nat → ClassId)  : va_W := []
set_option maxHeartbeats 4000000 in
set_option maxRecDepth 100000 in
theorem kX9_hasBit (l : Launch) (D : va_G) (cy : Nat → ClassId) (sz : Nat) (x0 : Int32) (x1 : Int32) (zr : Int32) (hok : fX9_hasBit x0 x1 = some zr) (A : Nat → Prop) (hAe : va_A (wX9_hasBit cy ) sz = A) : Met l yX9_hasBit wsX9_hasBit ({ frames := 0, cells := 0, slots := 0, locals := 0 } : Room) (kPre D cy [.int x0, .int x1] (wX9_hasBit cy ) sz) (kQi D cy zr A (wX9_hasBit cy )) 0 0 A := by
  refine Met.ofW (cc := cX9_hasBit) (maxL := 2) (ret := (some .boolean)) (by decide) rfl ?_
  intro p e s m args below meth c s₁ B hml hv
  obtain ⟨rfl, hsz, hP, hK, hD0, hN⟩ := hv
  have hx := B.exec
  have hb := B.bytes
  have hr := B.returns
  have ht0 : ∀ w ∈ W0, w.before _ s = true := fun w h => atoms_spec (ws := wsX9_hasBit) B.pre w (List.mem_cons_of_mem _ h)
  have hown : s.vm.findClass RX9 = some m.cls := findClass_of_methodNamed B.named
  have hlocks := B.notSynchronized
  subst hsz
  have hD : va_D A (wX9_hasBit cy ) := by rw [← hAe]; exact hD0.self
  have hA : ∀ q : Nat, s.heap.size ≤ q → A q := fun q h => by rw [← hAe]; exact Or.inr h
  have hS : va_S A s.heap s.heap [] := va_S.rf
  have hl := lv_entry ([.int x0, .int x1]) (n := 2) (Nat.le_of_ble_eq_true rfl)
  rw [lg_entry_eq]
  generalize (lg_sl ([.int x0, .int x1]) ++ List.replicate (2 - (lg_sl ([.int x0, .int x1])).length) Slot.unset).toArray = ls at hl ⊢
  have hl : lv_has ls 2 [(0, .int x0), (1, .int x1)] := hl
  generalize hQe : MQ below (kQi D cy zr A (wX9_hasBit cy )) ([.int x0, .int x1] : List Value).toArray s 0 0 A = Q
  have J14 : ∀ (t0_14 : Int32), ∀ (H : Heap) (locs : List Loc) (ls : Array Slot), va_P D vwCl (wX9_hasBit cy ) H → va_D A (wX9_hasBit cy ) → va_S A s.heap H locs → lv_has ls 2 [] → fX9_hasBit_J14 t0_14 = some zr → W p l e ({ frames := 0, cells := 0, slots := 0, locals := 0 } : Room) s m ([.int x0, .int x1] : List Value).toArray below meth c H locs 0 0 Q (F0 m 14 ls [.int t0_14]) := by
    intro t0_14 H locs ls hP hD hS hl hok
    unfold fX9_hasBit_J14 at hok
    obtain ⟨g14, hok⟩ := gd_some hok
    cases hok
    subst hQe; exact W.zret hx hb hr (isB_nar g14) (fun t ht hW => ⟨⟨_, (), rfl, rfl, by rw [ht]; exact hP, va_K.moved hW.alike hK, hD⟩, hS.F ht⟩) hS.2.2 dX9_hasBit_14
  unfold fX9_hasBit at hok
  obtain ⟨H, hH⟩ : ∃ H, H = s.heap := ⟨_, rfl⟩
  obtain ⟨locs, hlc⟩ : ∃ x : List Loc, x = [] := ⟨_, rfl⟩
  have hP : va_P D vwCl (wX9_hasBit cy ) H := by rw [hH]; exact hP
  have hS : va_S A s.heap H locs := by rw [hH, hlc]; exact hS
  rw [show W p l e _ s m _ below meth c s.heap [] = W p l e _ s m _ below meth c H locs from by rw [hH, hlc]]
  refine lv_iload_n hx hb dX9_hasBit_0 rfl (lv_at hl 0 rfl) ?_
  refine lv_iload_n hx hb dX9_hasBit_1 rfl (lv_at hl 1 rfl) ?_
  refine lv_ishr hx hb dX9_hasBit_2 ?_
  refine lv_iconst (v := 1) hx hb dX9_hasBit_3 (by decide) ?_
  refine lv_iand hx hb dX9_hasBit_4 ?_
  refine lv_iconst (v := 1) hx hb dX9_hasBit_5 (by decide) ?_
  refine lv_icmp_ne (tgt := 13) hx hb dX9_hasBit_6 (by decide) (fun c6 => ?_) (fun c6 => ?_)
  · have hok := k_neg c6 hok
    refine lv_iconst (v := 0) hx hb dX9_hasBit_13 (by decide) ?_
    exact J14 (0 : Int32) H locs ls hP hD hS (lv_sub hl [] rfl) hok
  · have hok := k_pos c6 hok
    refine lv_iconst (v := 1) hx hb dX9_hasBit_9 (by decide) ?_
    refine lv_goto (tgt := 14) hx hb dX9_hasBit_10 (by decide) ?_
    exact J14 (1 : Int32) H locs ls hP hD hS (lv_sub hl [] rfl) hok
def wsX9_ones : List Cond := .code yX9_ones cX9_ones 3 (some .int) :: W0
abbrev wX9_ones (cy : Nat → ClassId)  : va_W := []
set_option maxHeartbeats 4000000 in
set_option maxRecDepth 100000 in
theorem kX9_ones (l : Launch) (D : va_G) (cy : Nat → ClassId) (sz : Nat) (x0 : Int32) (zr : Int32) (hok : fX9_ones x0 = some zr) (A : Nat → Prop) (hAe : va_A (wX9_ones cy ) sz = A) : Met l yX9_ones wsX9_ones ({ frames := 0, cells := 0, slots := 0, locals := 0 } : Room) (kPre D cy [.int x0] (wX9_ones cy ) sz) (kQi D cy zr A (wX9_ones cy )) 0 0 A := by
  refine Met.ofW (cc := cX9_ones) (maxL := 3) (ret := (some .int)) (by decide) rfl ?_
  intro p e s m args below meth c s₁ B hml hv
  obtain ⟨rfl, hsz, hP, hK, hD0, hN⟩ := hv
  have hx := B.exec
  have hb := B.bytes
  have hr := B.returns
  have ht0 : ∀ w ∈ W0, w.before _ s = true := fun w h => atoms_spec (ws := wsX9_ones) B.pre w (List.mem_cons_of_mem _ h)
  have hown : s.vm.findClass RX9 = some m.cls := findClass_of_methodNamed B.named
  have hlocks := B.notSynchronized
  subst hsz
  have hD : va_D A (wX9_ones cy ) := by rw [← hAe]; exact hD0.self
  have hA : ∀ q : Nat, s.heap.size ≤ q → A q := fun q h => by rw [← hAe]; exact Or.inr h
  have hS : va_S A s.heap s.heap [] := va_S.rf
  have hl := lv_entry ([.int x0]) (n := 3) (Nat.le_of_ble_eq_true rfl)
  rw [lg_entry_eq]
  generalize (lg_sl ([.int x0]) ++ List.replicate (3 - (lg_sl ([.int x0])).length) Slot.unset).toArray = ls at hl ⊢
  have hl : lv_has ls 3 [(0, .int x0)] := hl
  generalize hQe : MQ below (kQi D cy zr A (wX9_ones cy )) ([.int x0] : List Value).toArray s 0 0 A = Q
  have L4 : ∀ (fuel : Nat) (y1_4 : Int32) (y2_4 : Int32), ∀ (H : Heap) (locs : List Loc) (ls : Array Slot), va_P D vwCl (wX9_ones cy ) H → va_D A (wX9_ones cy ) → va_S A s.heap H locs → lv_has ls 3 [(0, .int x0), (1, .int y1_4), (2, .int y2_4)] → lp (fX9_ones_B4 x0) fuel (y1_4, y2_4) = some zr → W p l e ({ frames := 0, cells := 0, slots := 0, locals := 0 } : Room) s m ([.int x0] : List Value).toArray below meth c H locs 0 0 Q (F0 m 4 ls []) := by
    intro fuel
    induction fuel with
    | zero => intro y1_4 y2_4 H locs ls hP hD hS hl hok; exact (lp_0 hok).elim
    | succ fuel ih4 =>
      intro y1_4 y2_4 H locs ls hP hD hS hl hok
      obtain ⟨y4, hok, hL4, hR4⟩ := lp_step hok
      unfold fX9_ones_B4 at hok
      try dsimp only at hok
      refine lv_iload_n hx hb dX9_ones_4 rfl (lv_at hl 2 rfl) ?_
      refine lv_bipush (v := 8) hx hb dX9_ones_5 (by decide) ?_
      refine lv_icmp_ge (tgt := 24) hx hb dX9_ones_7 (by decide) (fun c7 => ?_) (fun c7 => ?_)
      · have hok := k_pos c7 hok
        obtain ⟨e4, hok, he4⟩ := ex_some hok
        have hok := hok.trans (congrArg some (hL4 _ he4))
        refine lv_iload_n hx hb dX9_ones_24 rfl (lv_at hl 1 rfl) ?_
        cases hok
        subst hQe; exact W.iret hx hb hr (fun t ht hW => ⟨⟨_, (), rfl, rfl, by rw [ht]; exact hP, va_K.moved hW.alike hK, hD⟩, hS.F ht⟩) hS.2.2 dX9_ones_25
      · have hok := k_neg c7 hok
        refine lv_iload_n hx hb dX9_ones_10 rfl (lv_at hl 1 rfl) ?_
        refine lv_iload_n hx hb dX9_ones_11 rfl (lv_at hl 0 rfl) ?_
        refine lv_iload_n hx hb dX9_ones_12 rfl (lv_at hl 2 rfl) ?_
        refine lv_ishr hx hb dX9_ones_13 ?_
        refine lv_iconst (v := 1) hx hb dX9_ones_14 (by decide) ?_
        refine lv_iand hx hb dX9_ones_15 ?_
        refine lv_iadd hx hb dX9_ones_16 ?_
        refine lv_istore_n (lv' := [(1, .int (y1_4 + ((isr x0 y2_4) &&& (1 : Int32)))), (0, .int x0), (2, .int y2_4)]) hx hb dX9_ones_17 rfl hl (by decide) rfl (fun ls hl => ?_)
        refine lv_iinc (v := (y2_4 + 1)) (lv' := [(2, .int (y2_4 + 1)), (1, .int (y1_4 + ((isr x0 y2_4) &&& (1 : Int32)))), (0, .int x0)]) hx hb dX9_ones_18 hl (k := 2) rfl (by first | rfl | decide) (by decide) rfl (fun ls hl => ?_)
        refine lv_goto (tgt := 4) hx hb dX9_ones_21 (by decide) ?_
        exact ih4 (y1_4 + ((isr x0 y2_4) &&& (1 : Int32))) (y2_4 + 1) H locs ls hP hD hS (lv_sub hl [2, 1, 0] rfl) (hR4 _ (Option.some.inj hok).symm)
  unfold fX9_ones at hok
  obtain ⟨H, hH⟩ : ∃ H, H = s.heap := ⟨_, rfl⟩
  obtain ⟨locs, hlc⟩ : ∃ x : List Loc, x = [] := ⟨_, rfl⟩
  have hP : va_P D vwCl (wX9_ones cy ) H := by rw [hH]; exact hP
  have hS : va_S A s.heap H locs := by rw [hH, hlc]; exact hS
  rw [show W p l e _ s m _ below meth c s.heap [] = W p l e _ s m _ below meth c H locs from by rw [hH, hlc]]
  refine lv_iconst (v := 0) hx hb dX9_ones_0 (by decide) ?_
  refine lv_istore_n (lv' := [(1, .int 0), (0, .int x0)]) hx hb dX9_ones_1 rfl hl (by decide) rfl (fun ls hl => ?_)
  refine lv_iconst (v := 0) hx hb dX9_ones_2 (by decide) ?_
  refine lv_istore_n (lv' := [(2, .int 0), (1, .int 0), (0, .int x0)]) hx hb dX9_ones_3 rfl hl (by decide) rfl (fun ls hl => ?_)
  exact L4 5000 (0 : Int32) (0 : Int32) H locs ls hP hD hS (lv_sub hl [2, 1, 0] rfl) hok
def wsX9_copy : List Cond := .code yX9_copy cX9_copy 6 none :: W0
abbrev wX9_copy (cy : Nat → ClassId) (ap0 : Nat) (ap2 : Nat) (n0 : Nat) (p0 : Nat → Int32) (n2 : Nat) (p2 : Nat → Int32) : va_W := [(ap0, rI cy n0 p0), (ap2, rI cy n2 p2)]
set_option maxHeartbeats 4000000 in
set_option maxRecDepth 100000 in
theorem kX9_copy (l : Launch) (D : va_G) (cy : Nat → ClassId) (sz : Nat) (ap0 : Nat) (ap2 : Nat) (n0 : Nat) (p0 : Nat → Int32) (n2 : Nat) (p2 : Nat → Int32) (x1 : Int32) (x3 : Int32) (x4 : Int32) (z_p2 : Nat → Int32) (hok : fX9_copy n0 p0 n2 p2 x1 x3 x4 = some z_p2) (A : Nat → Prop) (hAe : va_A (wX9_copy cy ap0 ap2 n0 p0 n2 p2) sz = A) : Met l yX9_copy wsX9_copy ({ frames := 0, cells := 0, slots := 0, locals := 0 } : Room) (kPre D cy [.ref ap0, .int x1, .ref ap2, .int x3, .int x4] (wX9_copy cy ap0 ap2 n0 p0 n2 p2) sz) (kQv D cy A (wX9_copy cy ap0 ap2 n0 p0 n2 z_p2)) 0 0 A := by
  refine Met.ofW (cc := cX9_copy) (maxL := 6) (ret := none) (by decide) rfl ?_
  intro p e s m args below meth c s₁ B hml hv
  obtain ⟨rfl, hsz, hP, hK, hD0, hN⟩ := hv
  have hx := B.exec
  have hb := B.bytes
  have hr := B.returns
  have ht0 : ∀ w ∈ W0, w.before _ s = true := fun w h => atoms_spec (ws := wsX9_copy) B.pre w (List.mem_cons_of_mem _ h)
  have hown : s.vm.findClass RX9 = some m.cls := findClass_of_methodNamed B.named
  have hlocks := B.notSynchronized
  subst hsz
  have hD : va_D A (wX9_copy cy ap0 ap2 n0 p0 n2 p2) := by rw [← hAe]; exact hD0.self
  have hA : ∀ q : Nat, s.heap.size ≤ q → A q := fun q h => by rw [← hAe]; exact Or.inr h
  have hS : va_S A s.heap s.heap [] := va_S.rf
  have hl := lv_entry ([.ref ap0, .int x1, .ref ap2, .int x3, .int x4]) (n := 6) (Nat.le_of_ble_eq_true rfl)
  rw [lg_entry_eq]
  generalize (lg_sl ([.ref ap0, .int x1, .ref ap2, .int x3, .int x4]) ++ List.replicate (6 - (lg_sl ([.ref ap0, .int x1, .ref ap2, .int x3, .int x4])).length) Slot.unset).toArray = ls at hl ⊢
  have hl : lv_has ls 6 [(0, .ref ap0), (1, .int x1), (2, .ref ap2), (3, .int x3), (4, .int x4)] := hl
  generalize hQe : MQ below (kQv D cy A (wX9_copy cy ap0 ap2 n0 p0 n2 z_p2)) ([.ref ap0, .int x1, .ref ap2, .int x3, .int x4] : List Value).toArray s 0 0 A = Q
  have L3 : ∀ (fuel : Nat) (y5_3 : Int32) (p2_3 : Nat → Int32), ∀ (H : Heap) (locs : List Loc) (ls : Array Slot), va_P D vwCl (wX9_copy cy ap0 ap2 n0 p0 n2 p2_3) H → va_D A (wX9_copy cy ap0 ap2 n0 p0 n2 p2_3) → va_S A s.heap H locs → lv_has ls 6 [(0, .ref ap0), (1, .int x1), (2, .ref ap2), (3, .int x3), (4, .int x4), (5, .int y5_3)] → lp (fX9_copy_B3 n0 p0 n2 x1 x3 x4) fuel (y5_3, p2_3) = some z_p2 → W p l e ({ frames := 0, cells := 0, slots := 0, locals := 0 } : Room) s m ([.ref ap0, .int x1, .ref ap2, .int x3, .int x4] : List Value).toArray below meth c H locs 0 0 Q (F0 m 3 ls []) := by
    intro fuel
    induction fuel with
    | zero => intro y5_3 p2_3 H locs ls hP hD hS hl hok; exact (lp_0 hok).elim
    | succ fuel ih3 =>
      intro y5_3 p2_3 H locs ls hP hD hS hl hok
      obtain ⟨y3, hok, hL3, hR3⟩ := lp_step hok
      unfold fX9_copy_B3 at hok
      try dsimp only at hok
      refine lv_iload hx hb dX9_copy_3 (lv_at hl 5 rfl) ?_
      refine lv_iload hx hb dX9_copy_5 (lv_at hl 4 rfl) ?_
      refine lv_icmp_ge (tgt := 28) hx hb dX9_copy_7 (by decide) (fun c7 => ?_) (fun c7 => ?_)
      · have hok := k_pos c7 hok
        obtain ⟨e3, hok, he3⟩ := ex_some hok
        have hok := hok.trans (congrArg some (hL3 _ he3))
        cases hok
        subst hQe; exact W.vret hx hb hr (fun t ht hW => ⟨⟨(), rfl, trivial, by rw [ht]; exact hP, va_K.moved hW.alike hK, hD⟩, hS.F ht⟩) hS.2.2 dX9_copy_28
      · have hok := k_neg c7 hok
        refine lv_aload_n hx hb dX9_copy_10 rfl (lv_at hl 2 rfl) ?_
        refine lv_iload_n hx hb dX9_copy_11 rfl (lv_at hl 3 rfl) ?_
        refine lv_iload hx hb dX9_copy_12 (lv_at hl 5 rfl) ?_
        refine lv_iadd hx hb dX9_copy_14 ?_
        refine lv_aload_n hx hb dX9_copy_15 rfl (lv_at hl 0 rfl) ?_
        refine lv_iload_n hx hb dX9_copy_16 rfl (lv_at hl 1 rfl) ?_
        refine lv_iload hx hb dX9_copy_17 (lv_at hl 5 rfl) ?_
        refine lv_iadd hx hb dX9_copy_19 ?_
        obtain ⟨g20, hok⟩ := gd_some hok
        refine va_iald hx hb hK hP 0 0 rfl rfl (okI_in g20) dX9_copy_20 ?_
        obtain ⟨g21, hok⟩ := gd_some hok
        refine va_iast hx hb hK hP hD hS 1 0 rfl rfl (okI_in g21) dX9_copy_21 (fun H locs hP hD hS => ?_)
        have hP : va_P D vwCl (wX9_copy cy ap0 ap2 n0 p0 n2 (upd p2_3 (x3 + y5_3).toNatClampNeg (p0 (x1 + y5_3).toNatClampNeg))) H := hP
        have hD : va_D A (wX9_copy cy ap0 ap2 n0 p0 n2 (upd p2_3 (x3 + y5_3).toNatClampNeg (p0 (x1 + y5_3).toNatClampNeg))) := hD
        refine lv_iinc (v := (y5_3 + 1)) (lv' := [(5, .int (y5_3 + 1)), (0, .ref ap0), (1, .int x1), (2, .ref ap2), (3, .int x3), (4, .int x4)]) hx hb dX9_copy_22 hl (k := 5) rfl (by first | rfl | decide) (by decide) rfl (fun ls hl => ?_)
        refine lv_goto (tgt := 3) hx hb dX9_copy_25 (by decide) ?_
        exact ih3 (y5_3 + 1) (upd p2_3 (x3 + y5_3).toNatClampNeg (p0 (x1 + y5_3).toNatClampNeg)) H locs ls hP hD hS (lv_sub hl [1, 2, 3, 4, 5, 0] rfl) (hR3 _ (Option.some.inj hok).symm)
  unfold fX9_copy at hok
  obtain ⟨H, hH⟩ : ∃ H, H = s.heap := ⟨_, rfl⟩
  obtain ⟨locs, hlc⟩ : ∃ x : List Loc, x = [] := ⟨_, rfl⟩
  have hP : va_P D vwCl (wX9_copy cy ap0 ap2 n0 p0 n2 p2) H := by rw [hH]; exact hP
  have hS : va_S A s.heap H locs := by rw [hH, hlc]; exact hS
  rw [show W p l e _ s m _ below meth c s.heap [] = W p l e _ s m _ below meth c H locs from by rw [hH, hlc]]
  refine lv_iconst (v := 0) hx hb dX9_copy_0 (by decide) ?_
  refine lv_istore (lv' := [(5, .int 0), (0, .ref ap0), (1, .int x1), (2, .ref ap2), (3, .int x3), (4, .int x4)]) hx hb dX9_copy_1 hl (by decide) rfl (fun ls hl => ?_)
  exact L3 5000 (0 : Int32) p2 H locs ls hP hD hS (lv_sub hl [1, 2, 3, 4, 5, 0] rfl) hok
def wsX9_feed : List Cond := .code yX9_feed cX9_feed 8 (some .int) :: W0
abbrev wX9_feed (cy : Nat → ClassId) (aM : Nat) (qM : Nat → Nat) (vM : Nat → Int32) (vM_tape : Nat → Int32) : va_W := [(aM, oX9 vM qM), (qM 1, rI cy 900 vM_tape)]
set_option maxHeartbeats 4000000 in
set_option maxRecDepth 100000 in
theorem kX9_feed (l : Launch) (D : va_G) (cy : Nat → ClassId) (sz : Nat) (aM : Nat) (qM : Nat → Nat) (vM : Nat → Int32) (vM_tape : Nat → Int32) (x1 : Int32) (x2 : Int32) (x3 : Int32) (x4 : Int32) (x5 : Int32) (zr : Int32) (z_vM : Nat → Int32) (z_vM_tape : Nat → Int32) (hok : fX9_feed vM vM_tape x1 x2 x3 x4 x5 = some (zr, z_vM, z_vM_tape)) (A : Nat → Prop) (hAe : va_A (wX9_feed cy aM qM vM vM_tape) sz = A) : Met l yX9_feed wsX9_feed ({ frames := 0, cells := 0, slots := 0, locals := 0 } : Room) (kPre D cy [.ref aM, .int x1, .int x2, .int x3, .int x4, .int x5] (wX9_feed cy aM qM vM vM_tape) sz) (kQi D cy zr A (wX9_feed cy aM qM z_vM z_vM_tape)) 0 0 A := by
  refine Met.ofW (cc := cX9_feed) (maxL := 8) (ret := (some .int)) (by decide) rfl ?_
  intro p e s m args below meth c s₁ B hml hv
  obtain ⟨rfl, hsz, hP, hK, hD0, hN⟩ := hv
  have hx := B.exec
  have hb := B.bytes
  have hr := B.returns
  have ht0 : ∀ w ∈ W0, w.before _ s = true := fun w h => atoms_spec (ws := wsX9_feed) B.pre w (List.mem_cons_of_mem _ h)
  have hown : s.vm.findClass RX9 = some m.cls := findClass_of_methodNamed B.named
  have hlocks := B.notSynchronized
  subst hsz
  have hD : va_D A (wX9_feed cy aM qM vM vM_tape) := by rw [← hAe]; exact hD0.self
  have hA : ∀ q : Nat, s.heap.size ≤ q → A q := fun q h => by rw [← hAe]; exact Or.inr h
  have hS : va_S A s.heap s.heap [] := va_S.rf
  have hl := lv_entry ([.ref aM, .int x1, .int x2, .int x3, .int x4, .int x5]) (n := 8) (Nat.le_of_ble_eq_true rfl)
  rw [lg_entry_eq]
  generalize (lg_sl ([.ref aM, .int x1, .int x2, .int x3, .int x4, .int x5]) ++ List.replicate (8 - (lg_sl ([.ref aM, .int x1, .int x2, .int x3, .int x4, .int x5])).length) Slot.unset).toArray = ls at hl ⊢
  have hl : lv_has ls 8 [(0, .ref aM), (1, .int x1), (2, .int x2), (3, .int x3), (4, .int x4), (5, .int x5)] := hl
  generalize hQe : MQ below (kQi D cy zr A (wX9_feed cy aM qM z_vM z_vM_tape)) ([.ref aM, .int x1, .int x2, .int x3, .int x4, .int x5] : List Value).toArray s 0 0 A = Q
  have L23 : ∀ (fuel : Nat) (y6_23 : Int32) (vM_tape_23 : Nat → Int32) (vM_23 : Nat → Int32), ∀ (H : Heap) (locs : List Loc) (ls : Array Slot), va_P D vwCl (wX9_feed cy aM qM vM_23 vM_tape_23) H → va_D A (wX9_feed cy aM qM vM_23 vM_tape_23) → va_S A s.heap H locs → lv_has ls 8 [(0, .ref aM), (1, .int x1), (2, .int x2), (3, .int x3), (4, .int x4), (5, .int x5), (6, .int y6_23)] → lp (fX9_feed_B23 x1 x2 x3 x4 x5) fuel (y6_23, vM_tape_23, vM_23) = some (zr, z_vM, z_vM_tape) → W p l e ({ frames := 0, cells := 0, slots := 0, locals := 0 } : Room) s m ([.ref aM, .int x1, .int x2, .int x3, .int x4, .int x5] : List Value).toArray below meth c H locs 0 0 Q (F0 m 23 ls []) := by
    intro fuel
    induction fuel with
    | zero => intro y6_23 vM_tape_23 vM_23 H locs ls hP hD hS hl hok; exact (lp_0 hok).elim
    | succ fuel ih23 =>
      intro y6_23 vM_tape_23 vM_23 H locs ls hP hD hS hl hok
      obtain ⟨y23, hok, hL23, hR23⟩ := lp_step hok
      have J76 : ∀ (t0_76 : Int32), ∀ (H : Heap) (locs : List Loc) (ls : Array Slot), va_P D vwCl (wX9_feed cy aM qM vM_23 vM_tape_23) H → va_D A (wX9_feed cy aM qM vM_23 vM_tape_23) → va_S A s.heap H locs → lv_has ls 8 [(0, .ref aM), (1, .int x1), (2, .int x2), (3, .int x3), (4, .int x4), (5, .int x5), (6, .int y6_23)] → fX9_feed_J76 y6_23 vM_tape_23 vM_23 t0_76 = some y23 → W p l e ({ frames := 0, cells := 0, slots := 0, locals := 0 } : Room) s m ([.ref aM, .int x1, .int x2, .int x3, .int x4, .int x5] : List Value).toArray below meth c H locs 0 0 Q (F0 m 76 ls [.int t0_76]) := by
        intro t0_76 H locs ls hP hD hS hl hok
        unfold fX9_feed_J76 at hok
        refine lv_istore (lv' := [(7, .int t0_76), (0, .ref aM), (1, .int x1), (2, .int x2), (3, .int x3), (4, .int x4), (5, .int x5), (6, .int y6_23)]) hx hb dX9_feed_76 hl (by decide) rfl (fun ls hl => ?_)
        refine lv_aload_n hx hb dX9_feed_78 rfl (lv_at hl 1 rfl) ?_
        refine va_get (D := D) (ci := 8) (v := .ref (qM 1)) (C := RX9) (T := TX9) (N := 29) hx hb ht0 niX9 hown hK hP 0 rfl rfl 1 (by decide) (ht0 _ wd737) (fun _ h9 => h9) rfl dX9_feed_79 ?_
        refine lv_aload_n hx hb dX9_feed_82 rfl (lv_at hl 1 rfl) ?_
        refine va_get (D := D) (ci := 8) (v := .int (vM_23 2)) (C := RX9) (T := TX9) (N := 29) hx hb ht0 niX9 hown hK hP 0 rfl rfl 2 (by decide) (ht0 _ wd738) (fun _ h9 => h9) rfl dX9_feed_83 ?_
        refine lv_iload hx hb dX9_feed_86 (lv_at hl 0 rfl) ?_
        refine lv_bipush (v := 24) hx hb dX9_feed_88 (by decide) ?_
        refine lv_bipush (v := 8) hx hb dX9_feed_90 (by decide) ?_
        refine lv_iload hx hb dX9_feed_92 (lv_at hl 7 rfl) ?_
        refine lv_iconst (v := 4) hx hb dX9_feed_94 (by decide) ?_
        refine lv_irem hx hb dX9_feed_95 (by decide) ?_
        refine lv_imul hx hb dX9_feed_96 ?_
        refine lv_isub hx hb dX9_feed_97 ?_
        refine lv_ishr hx hb dX9_feed_98 ?_
        refine lv_sipush (v := 255) hx hb dX9_feed_99 (by decide) ?_
        refine lv_iand hx hb dX9_feed_102 ?_
        obtain ⟨g103, hok⟩ := gd_some hok
        refine va_iast hx hb hK hP hD hS 1 0 rfl rfl (okI_in g103) dX9_feed_103 (fun H locs hP hD hS => ?_)
        have hP : va_P D vwCl (wX9_feed cy aM qM vM_23 (upd vM_tape_23 (vM_23 2).toNatClampNeg ((isr t0_76 ((24 : Int32) - ((8 : Int32) * (irm y6_23 (4 : Int32))))) &&& (255 : Int32)))) H := hP
        have hD : va_D A (wX9_feed cy aM qM vM_23 (upd vM_tape_23 (vM_23 2).toNatClampNeg ((isr t0_76 ((24 : Int32) - ((8 : Int32) * (irm y6_23 (4 : Int32))))) &&& (255 : Int32)))) := hD
        refine lv_aload_n hx hb dX9_feed_104 rfl (lv_at hl 1 rfl) ?_
        refine lv_dup hx hb dX9_feed_105 rfl ?_
        refine va_get (D := D) (ci := 8) (v := .int (vM_23 2)) (C := RX9) (T := TX9) (N := 29) hx hb ht0 niX9 hown hK hP 0 rfl rfl 2 (by decide) (ht0 _ wd738) (fun _ h9 => h9) rfl dX9_feed_106 ?_
        refine lv_iconst (v := 1) hx hb dX9_feed_109 (by decide) ?_
        refine lv_iadd hx hb dX9_feed_110 ?_
        refine va_put (D := D) (ci := 8) (v := .int ((vM_23 2) + (1 : Int32))) (ty := .int) (C := RX9) (T := TX9) (N := 29) hx hb ht0 niX9 tyX9 tyX9_ok nmX9 hown hK hP hD hS 0 rfl rfl 2 (by decide) (ht0 _ wd738) (fun _ h9 => h9) rfl (by decide +kernel) rfl rfl (Nat.le_of_ble_eq_true rfl) dX9_feed_111 (fun H locs hP hD hS => ?_)
        have hP : va_P D vwCl (wX9_feed cy aM qM (upd vM_23 2 ((vM_23 2) + (1 : Int32))) (upd vM_tape_23 (vM_23 2).toNatClampNeg ((isr t0_76 ((24 : Int32) - ((8 : Int32) * (irm y6_23 (4 : Int32))))) &&& (255 : Int32)))) H := hP
        have hD : va_D A (wX9_feed cy aM qM (upd vM_23 2 ((vM_23 2) + (1 : Int32))) (upd vM_tape_23 (vM_23 2).toNatClampNeg ((isr t0_76 ((24 : Int32) - ((8 : Int32) * (irm y6_23 (4 : Int32))))) &&& (255 : Int32)))) := hD
        refine lv_iinc (v := (y6_23 + 1)) (lv' := [(6, .int (y6_23 + 1)), (7, .int t0_76), (0, .ref aM), (1, .int x1), (2, .int x2), (3, .int x3), (4, .int x4), (5, .int x5)]) hx hb dX9_feed_114 hl (k := 7) rfl (by first | rfl | decide) (by decide) rfl (fun ls hl => ?_)
        refine lv_goto (tgt := 23) hx hb dX9_feed_117 (by decide) ?_
        exact ih23 (y6_23 + 1) (upd vM_tape_23 (vM_23 2).toNatClampNeg ((isr t0_76 ((24 : Int32) - ((8 : Int32) * (irm y6_23 (4 : Int32))))) &&& (255 : Int32))) (upd vM_23 2 ((vM_23 2) + (1 : Int32))) H locs ls hP hD hS (lv_sub hl [2, 3, 4, 5, 6, 7, 0] rfl) (hR23 _ (Option.some.inj hok).symm)
      unfold fX9_feed_B23 at hok
      try dsimp only at hok
      refine lv_iload hx hb dX9_feed_23 (lv_at hl 6 rfl) ?_
      refine lv_bipush (v := 20) hx hb dX9_feed_25 (by decide) ?_
      refine lv_icmp_ge (tgt := 120) hx hb dX9_feed_27 (by decide) (fun c27 => ?_) (fun c27 => ?_)
      · have hok := k_pos c27 hok
        obtain ⟨e23, hok, he23⟩ := ex_some hok
        have hok := hok.trans (congrArg some (hL23 _ he23))
        refine lv_aload_n hx hb dX9_feed_120 rfl (lv_at hl 0 rfl) ?_
        refine va_get (D := D) (ci := 8) (v := .int (vM_23 2)) (C := RX9) (T := TX9) (N := 29) hx hb ht0 niX9 hown hK hP 0 rfl rfl 2 (by decide) (ht0 _ wd738) (fun _ h9 => h9) rfl dX9_feed_121 ?_
        cases hok
        subst hQe; exact W.iret hx hb hr (fun t ht hW => ⟨⟨_, (), rfl, rfl, by rw [ht]; exact hP, va_K.moved hW.alike hK, hD⟩, hS.F ht⟩) hS.2.2 dX9_feed_124
      · have hok := k_neg c27 hok
        refine lv_iload hx hb dX9_feed_30 (lv_at hl 6 rfl) ?_
        refine lv_iconst (v := 4) hx hb dX9_feed_32 (by decide) ?_
        refine lv_icmp_ge (tgt := 40) hx hb dX9_feed_33 (by decide) (fun c33 => ?_) (fun c33 => ?_)
        · have hok := k_pos c33 hok
          refine lv_iload hx hb dX9_feed_40 (lv_at hl 6 rfl) ?_
          refine lv_bipush (v := 8) hx hb dX9_feed_42 (by decide) ?_
          refine lv_icmp_ge (tgt := 51) hx hb dX9_feed_44 (by decide) (fun c44 => ?_) (fun c44 => ?_)
          · have hok := k_pos c44 hok
            refine lv_iload hx hb dX9_feed_51 (lv_at hl 6 rfl) ?_
            refine lv_bipush (v := 12) hx hb dX9_feed_53 (by decide) ?_
            refine lv_icmp_ge (tgt := 62) hx hb dX9_feed_55 (by decide) (fun c55 => ?_) (fun c55 => ?_)
            · have hok := k_pos c55 hok
              refine lv_iload hx hb dX9_feed_62 (lv_at hl 6 rfl) ?_
              refine lv_bipush (v := 16) hx hb dX9_feed_64 (by decide) ?_
              refine lv_icmp_ge (tgt := 74) hx hb dX9_feed_66 (by decide) (fun c66 => ?_) (fun c66 => ?_)
              · have hok := k_pos c66 hok
                refine lv_iload hx hb dX9_feed_74 (lv_at hl 5 rfl) ?_
                exact J76 x5 H locs ls hP hD hS (lv_sub hl [0, 1, 2, 3, 4, 5, 6] rfl) hok
              · have hok := k_neg c66 hok
                refine lv_iload hx hb dX9_feed_69 (lv_at hl 4 rfl) ?_
                refine lv_goto (tgt := 76) hx hb dX9_feed_71 (by decide) ?_
                exact J76 x4 H locs ls hP hD hS (lv_sub hl [0, 1, 2, 3, 4, 5, 6] rfl) hok
            · have hok := k_neg c55 hok
              refine lv_iload_n hx hb dX9_feed_58 rfl (lv_at hl 3 rfl) ?_
              refine lv_goto (tgt := 76) hx hb dX9_feed_59 (by decide) ?_
              exact J76 x3 H locs ls hP hD hS (lv_sub hl [0, 1, 2, 3, 4, 5, 6] rfl) hok
          · have hok := k_neg c44 hok
            refine lv_iload_n hx hb dX9_feed_47 rfl (lv_at hl 2 rfl) ?_
            refine lv_goto (tgt := 76) hx hb dX9_feed_48 (by decide) ?_
            exact J76 x2 H locs ls hP hD hS (lv_sub hl [0, 1, 2, 3, 4, 5, 6] rfl) hok
        · have hok := k_neg c33 hok
          refine lv_iload_n hx hb dX9_feed_36 rfl (lv_at hl 1 rfl) ?_
          refine lv_goto (tgt := 76) hx hb dX9_feed_37 (by decide) ?_
          exact J76 x1 H locs ls hP hD hS (lv_sub hl [0, 1, 2, 3, 4, 5, 6] rfl) hok
  unfold fX9_feed at hok
  obtain ⟨H, hH⟩ : ∃ H, H = s.heap := ⟨_, rfl⟩
  obtain ⟨locs, hlc⟩ : ∃ x : List Loc, x = [] := ⟨_, rfl⟩
  have hP : va_P D vwCl (wX9_feed cy aM qM vM vM_tape) H := by rw [hH]; exact hP
  have hS : va_S A s.heap H locs := by rw [hH, hlc]; exact hS
  rw [show W p l e _ s m _ below meth c s.heap [] = W p l e _ s m _ below meth c H locs from by rw [hH, hlc]]
  refine lv_aload_n hx hb dX9_feed_0 rfl (lv_at hl 0 rfl) ?_
  refine lv_iconst (v := 0) hx hb dX9_feed_1 (by decide) ?_
  refine va_put (D := D) (ci := 8) (v := .int 0) (ty := .int) (C := RX9) (T := TX9) (N := 29) hx hb ht0 niX9 tyX9 tyX9_ok nmX9 hown hK hP hD hS 0 rfl rfl 0 (by decide) (ht0 _ wd735) (fun _ h9 => h9) rfl (by decide +kernel) rfl rfl (Nat.le_of_ble_eq_true rfl) dX9_feed_2 (fun H locs hP hD hS => ?_)
  have hP : va_P D vwCl (wX9_feed cy aM qM (upd vM 0 (0 : Int32)) vM_tape) H := hP
  have hD : va_D A (wX9_feed cy aM qM (upd vM 0 (0 : Int32)) vM_tape) := hD
  refine lv_aload_n hx hb dX9_feed_5 rfl (lv_at hl 0 rfl) ?_
  refine va_get (D := D) (ci := 8) (v := .int (vM 2)) (C := RX9) (T := TX9) (N := 29) hx hb ht0 niX9 hown hK hP 0 rfl rfl 2 (by decide) (ht0 _ wd738) (fun _ h9 => h9) rfl dX9_feed_6 ?_
  refine lv_bipush (v := 20) hx hb dX9_feed_9 (by decide) ?_
  refine lv_iadd hx hb dX9_feed_11 ?_
  refine lv_sipush (v := 900) hx hb dX9_feed_12 (by decide) ?_
  refine lv_icmp_le (tgt := 20) hx hb dX9_feed_15 (by decide) (fun c15 => ?_) (fun c15 => ?_)
  · have hok := k_pos c15 hok
    refine lv_iconst (v := 0) hx hb dX9_feed_20 (by decide) ?_
    refine lv_istore (lv' := [(6, .int 0), (0, .ref aM), (1, .int x1), (2, .int x2), (3, .int x3), (4, .int x4), (5, .int x5)]) hx hb dX9_feed_21 hl (by decide) rfl (fun ls hl => ?_)
    exact L23 5000 (0 : Int32) vM_tape (upd vM 0 (0 : Int32)) H locs ls hP hD hS (lv_sub hl [1, 2, 3, 4, 5, 6, 0] rfl) hok
  · have hok := k_neg c15 hok
    refine lv_iconst (v := -1) hx hb dX9_feed_18 (by decide) ?_
    cases hok
    subst hQe; exact W.iret hx hb hr (fun t ht hW => ⟨⟨_, (), rfl, rfl, by rw [ht]; exact hP, va_K.moved hW.alike hK, hD⟩, hS.F ht⟩) hS.2.2 dX9_feed_19
def wsX9_look1 : List Cond := .code yX9_look1 cX9_look1 2 (some .int) :: W0
abbrev wX9_look1 (cy : Nat → ClassId) (aM : Nat) (qM : Nat → Nat) (vM : Nat → Int32) (vM_tape : Nat → Int32) : va_W := [(aM, oX9 vM qM), (qM 1, rI cy 900 vM_tape)]
set_option maxHeartbeats 4000000 in
set_option maxRecDepth 100000 in
theorem kX9_look1 (l : Launch) (D : va_G) (cy : Nat → ClassId) (sz : Nat) (aM : Nat) (qM : Nat → Nat) (vM : Nat → Int32) (vM_tape : Nat → Int32) (x1 : Int32) (zr : Int32) (hok : fX9_look1 vM vM_tape x1 = some zr) (A : Nat → Prop) (hAe : va_A (wX9_look1 cy aM qM vM vM_tape) sz = A) : Met l yX9_look1 wsX9_look1 ({ frames := 0, cells := 0, slots := 0, locals := 0 } : Room) (kPre D cy [.ref aM, .int x1] (wX9_look1 cy aM qM vM vM_tape) sz) (kQi D cy zr A (wX9_look1 cy aM qM vM vM_tape)) 0 0 A := by
  refine Met.ofW (cc := cX9_look1) (maxL := 2) (ret := (some .int)) (by decide) rfl ?_
  intro p e s m args below meth c s₁ B hml hv
  obtain ⟨rfl, hsz, hP, hK, hD0, hN⟩ := hv
  have hx := B.exec
  have hb := B.bytes
  have hr := B.returns
  have ht0 : ∀ w ∈ W0, w.before _ s = true := fun w h => atoms_spec (ws := wsX9_look1) B.pre w (List.mem_cons_of_mem _ h)
  have hown : s.vm.findClass RX9 = some m.cls := findClass_of_methodNamed B.named
  have hlocks := B.notSynchronized
  subst hsz
  have hD : va_D A (wX9_look1 cy aM qM vM vM_tape) := by rw [← hAe]; exact hD0.self
  have hA : ∀ q : Nat, s.heap.size ≤ q → A q := fun q h => by rw [← hAe]; exact Or.inr h
  have hS : va_S A s.heap s.heap [] := va_S.rf
  have hl := lv_entry ([.ref aM, .int x1]) (n := 2) (Nat.le_of_ble_eq_true rfl)
  rw [lg_entry_eq]
  generalize (lg_sl ([.ref aM, .int x1]) ++ List.replicate (2 - (lg_sl ([.ref aM, .int x1])).length) Slot.unset).toArray = ls at hl ⊢
  have hl : lv_has ls 2 [(0, .ref aM), (1, .int x1)] := hl
  generalize hQe : MQ below (kQi D cy zr A (wX9_look1 cy aM qM vM vM_tape)) ([.ref aM, .int x1] : List Value).toArray s 0 0 A = Q
  have J18 : ∀ (t0_18 : Int32), ∀ (H : Heap) (locs : List Loc) (ls : Array Slot), va_P D vwCl (wX9_look1 cy aM qM vM vM_tape) H → va_D A (wX9_look1 cy aM qM vM vM_tape) → va_S A s.heap H locs → lv_has ls 2 [] → fX9_look1_J18 t0_18 = some zr → W p l e ({ frames := 0, cells := 0, slots := 0, locals := 0 } : Room) s m ([.ref aM, .int x1] : List Value).toArray below meth c H locs 0 0 Q (F0 m 18 ls [.int t0_18]) := by
    intro t0_18 H locs ls hP hD hS hl hok
    unfold fX9_look1_J18 at hok
    cases hok
    subst hQe; exact W.iret hx hb hr (fun t ht hW => ⟨⟨_, (), rfl, rfl, by rw [ht]; exact hP, va_K.moved hW.alike hK, hD⟩, hS.F ht⟩) hS.2.2 dX9_look1_18
  unfold fX9_look1 at hok
  obtain ⟨H, hH⟩ : ∃ H, H = s.heap := ⟨_, rfl⟩
  obtain ⟨locs, hlc⟩ : ∃ x : List Loc, x = [] := ⟨_, rfl⟩
  have hP : va_P D vwCl (wX9_look1 cy aM qM vM vM_tape) H := by rw [hH]; exact hP
  have hS : va_S A s.heap H locs := by rw [hH, hlc]; exact hS
  rw [show W p l e _ s m _ below meth c s.heap [] = W p l e _ s m _ below meth c H locs from by rw [hH, hlc]]
  refine lv_iload_n hx hb dX9_look1_0 rfl (lv_at hl 1 rfl) ?_
  refine lv_aload_n hx hb dX9_look1_1 rfl (lv_at hl 0 rfl) ?_
  refine va_get (D := D) (ci := 8) (v := .int (vM 3)) (C := RX9) (T := TX9) (N := 29) hx hb ht0 niX9 hown hK hP 0 rfl rfl 3 (by decide) (ht0 _ wd739) (fun _ h9 => h9) rfl dX9_look1_2 ?_
  refine lv_icmp_ge (tgt := 17) hx hb dX9_look1_5 (by decide) (fun c5 => ?_) (fun c5 => ?_)
  · have hok := k_pos c5 hok
    refine lv_iconst (v := -1) hx hb dX9_look1_17 (by decide) ?_
    exact J18 (-1 : Int32) H locs ls hP hD hS (lv_sub hl [] rfl) hok
  · have hok := k_neg c5 hok
    refine lv_aload_n hx hb dX9_look1_8 rfl (lv_at hl 0 rfl) ?_
    refine va_get (D := D) (ci := 8) (v := .ref (qM 1)) (C := RX9) (T := TX9) (N := 29) hx hb ht0 niX9 hown hK hP 0 rfl rfl 1 (by decide) (ht0 _ wd737) (fun _ h9 => h9) rfl dX9_look1_9 ?_
    refine lv_iload_n hx hb dX9_look1_12 rfl (lv_at hl 1 rfl) ?_
    obtain ⟨g13, hok⟩ := gd_some hok
    refine va_iald hx hb hK hP 1 0 rfl rfl (okI_in g13) dX9_look1_13 ?_
    refine lv_goto (tgt := 18) hx hb dX9_look1_14 (by decide) ?_
    exact J18 (vM_tape x1.toNatClampNeg) H locs ls hP hD hS (lv_sub hl [] rfl) hok
def wsX9_isSmall : List Cond := .code yX9_isSmall cX9_isSmall 1 (some .boolean) :: W0
abbrev wX9_isSmall (cy : Nat → ClassId)  : va_W := []
set_option maxHeartbeats 4000000 in
set_option maxRecDepth 100000 in
theorem kX9_isSmall (l : Launch) (D : va_G) (cy : Nat → ClassId) (sz : Nat) (x0 : Int32) (zr : Int32) (hok : fX9_isSmall x0 = some zr) (A : Nat → Prop) (hAe : va_A (wX9_isSmall cy ) sz = A) : Met l yX9_isSmall wsX9_isSmall ({ frames := 0, cells := 0, slots := 0, locals := 0 } : Room) (kPre D cy [.int x0] (wX9_isSmall cy ) sz) (kQi D cy zr A (wX9_isSmall cy )) 0 0 A := by
  refine Met.ofW (cc := cX9_isSmall) (maxL := 1) (ret := (some .boolean)) (by decide) rfl ?_
  intro p e s m args below meth c s₁ B hml hv
  obtain ⟨rfl, hsz, hP, hK, hD0, hN⟩ := hv
  have hx := B.exec
  have hb := B.bytes
  have hr := B.returns
  have ht0 : ∀ w ∈ W0, w.before _ s = true := fun w h => atoms_spec (ws := wsX9_isSmall) B.pre w (List.mem_cons_of_mem _ h)
  have hown : s.vm.findClass RX9 = some m.cls := findClass_of_methodNamed B.named
  have hlocks := B.notSynchronized
  subst hsz
  have hD : va_D A (wX9_isSmall cy ) := by rw [← hAe]; exact hD0.self
  have hA : ∀ q : Nat, s.heap.size ≤ q → A q := fun q h => by rw [← hAe]; exact Or.inr h
  have hS : va_S A s.heap s.heap [] := va_S.rf
  have hl := lv_entry ([.int x0]) (n := 1) (Nat.le_of_ble_eq_true rfl)
  rw [lg_entry_eq]
  generalize (lg_sl ([.int x0]) ++ List.replicate (1 - (lg_sl ([.int x0])).length) Slot.unset).toArray = ls at hl ⊢
  have hl : lv_has ls 1 [(0, .int x0)] := hl
  generalize hQe : MQ below (kQi D cy zr A (wX9_isSmall cy )) ([.int x0] : List Value).toArray s 0 0 A = Q
  have J17 : ∀ (t0_17 : Int32), ∀ (H : Heap) (locs : List Loc) (ls : Array Slot), va_P D vwCl (wX9_isSmall cy ) H → va_D A (wX9_isSmall cy ) → va_S A s.heap H locs → lv_has ls 1 [] → fX9_isSmall_J17 t0_17 = some zr → W p l e ({ frames := 0, cells := 0, slots := 0, locals := 0 } : Room) s m ([.int x0] : List Value).toArray below meth c H locs 0 0 Q (F0 m 17 ls [.int t0_17]) := by
    intro t0_17 H locs ls hP hD hS hl hok
    unfold fX9_isSmall_J17 at hok
    obtain ⟨g17, hok⟩ := gd_some hok
    cases hok
    subst hQe; exact W.zret hx hb hr (isB_nar g17) (fun t ht hW => ⟨⟨_, (), rfl, rfl, by rw [ht]; exact hP, va_K.moved hW.alike hK, hD⟩, hS.F ht⟩) hS.2.2 dX9_isSmall_17
  have J16 : ∀ (H : Heap) (locs : List Loc) (ls : Array Slot), va_P D vwCl (wX9_isSmall cy ) H → va_D A (wX9_isSmall cy ) → va_S A s.heap H locs → lv_has ls 1 [] → fX9_isSmall_J16 = some zr → W p l e ({ frames := 0, cells := 0, slots := 0, locals := 0 } : Room) s m ([.int x0] : List Value).toArray below meth c H locs 0 0 Q (F0 m 16 ls []) := by
    intro  H locs ls hP hD hS hl hok
    unfold fX9_isSmall_J16 at hok
    refine lv_iconst (v := 0) hx hb dX9_isSmall_16 (by decide) ?_
    exact J17 (0 : Int32) H locs ls hP hD hS (lv_sub hl [] rfl) hok
  unfold fX9_isSmall at hok
  obtain ⟨H, hH⟩ : ∃ H, H = s.heap := ⟨_, rfl⟩
  obtain ⟨locs, hlc⟩ : ∃ x : List Loc, x = [] := ⟨_, rfl⟩
  have hP : va_P D vwCl (wX9_isSmall cy ) H := by rw [hH]; exact hP
  have hS : va_S A s.heap H locs := by rw [hH, hlc]; exact hS
  rw [show W p l e _ s m _ below meth c s.heap [] = W p l e _ s m _ below meth c H locs from by rw [hH, hlc]]
  refine lv_iload_n hx hb dX9_isSmall_0 rfl (lv_at hl 0 rfl) ?_
  refine lv_bipush (v := 97) hx hb dX9_isSmall_1 (by decide) ?_
  refine lv_icmp_lt (tgt := 16) hx hb dX9_isSmall_3 (by decide) (fun c3 => ?_) (fun c3 => ?_)
  · have hok := k_pos c3 hok
    exact J16  H locs ls hP hD hS (lv_sub hl [] rfl) hok
  · have hok := k_neg c3 hok
    refine lv_iload_n hx hb dX9_isSmall_6 rfl (lv_at hl 0 rfl) ?_
    refine lv_bipush (v := 122) hx hb dX9_isSmall_7 (by decide) ?_
    refine lv_icmp_gt (tgt := 16) hx hb dX9_isSmall_9 (by decide) (fun c9 => ?_) (fun c9 => ?_)
    · have hok := k_pos c9 hok
      exact J16  H locs ls hP hD hS (lv_sub hl [] rfl) hok
    · have hok := k_neg c9 hok
      refine lv_iconst (v := 1) hx hb dX9_isSmall_12 (by decide) ?_
      refine lv_goto (tgt := 17) hx hb dX9_isSmall_13 (by decide) ?_
      exact J17 (1 : Int32) H locs ls hP hD hS (lv_sub hl [] rfl) hok
def wsX9_isDigit : List Cond := .code yX9_isDigit cX9_isDigit 1 (some .boolean) :: W0
abbrev wX9_isDigit (cy : Nat → ClassId)  : va_W := []
set_option maxHeartbeats 4000000 in
set_option maxRecDepth 100000 in
theorem kX9_isDigit (l : Launch) (D : va_G) (cy : Nat → ClassId) (sz : Nat) (x0 : Int32) (zr : Int32) (hok : fX9_isDigit x0 = some zr) (A : Nat → Prop) (hAe : va_A (wX9_isDigit cy ) sz = A) : Met l yX9_isDigit wsX9_isDigit ({ frames := 0, cells := 0, slots := 0, locals := 0 } : Room) (kPre D cy [.int x0] (wX9_isDigit cy ) sz) (kQi D cy zr A (wX9_isDigit cy )) 0 0 A := by
  refine Met.ofW (cc := cX9_isDigit) (maxL := 1) (ret := (some .boolean)) (by decide) rfl ?_
  intro p e s m args below meth c s₁ B hml hv
  obtain ⟨rfl, hsz, hP, hK, hD0, hN⟩ := hv
  have hx := B.exec
  have hb := B.bytes
  have hr := B.returns
  have ht0 : ∀ w ∈ W0, w.before _ s = true := fun w h => atoms_spec (ws := wsX9_isDigit) B.pre w (List.mem_cons_of_mem _ h)
  have hown : s.vm.findClass RX9 = some m.cls := findClass_of_methodNamed B.named
  have hlocks := B.notSynchronized
  subst hsz
  have hD : va_D A (wX9_isDigit cy ) := by rw [← hAe]; exact hD0.self
  have hA : ∀ q : Nat, s.heap.size ≤ q → A q := fun q h => by rw [← hAe]; exact Or.inr h
  have hS : va_S A s.heap s.heap [] := va_S.rf
  have hl := lv_entry ([.int x0]) (n := 1) (Nat.le_of_ble_eq_true rfl)
  rw [lg_entry_eq]
  generalize (lg_sl ([.int x0]) ++ List.replicate (1 - (lg_sl ([.int x0])).length) Slot.unset).toArray = ls at hl ⊢
  have hl : lv_has ls 1 [(0, .int x0)] := hl
  generalize hQe : MQ below (kQi D cy zr A (wX9_isDigit cy )) ([.int x0] : List Value).toArray s 0 0 A = Q
  have J17 : ∀ (t0_17 : Int32), ∀ (H : Heap) (locs : List Loc) (ls : Array Slot), va_P D vwCl (wX9_isDigit cy ) H → va_D A (wX9_isDigit cy ) → va_S A s.heap H locs → lv_has ls 1 [] → fX9_isDigit_J17 t0_17 = some zr → W p l e ({ frames := 0, cells := 0, slots := 0, locals := 0 } : Room) s m ([.int x0] : List Value).toArray below meth c H locs 0 0 Q (F0 m 17 ls [.int t0_17]) := by
    intro t0_17 H locs ls hP hD hS hl hok
    unfold fX9_isDigit_J17 at hok
    obtain ⟨g17, hok⟩ := gd_some hok
    cases hok
    subst hQe; exact W.zret hx hb hr (isB_nar g17) (fun t ht hW => ⟨⟨_, (), rfl, rfl, by rw [ht]; exact hP, va_K.moved hW.alike hK, hD⟩, hS.F ht⟩) hS.2.2 dX9_isDigit_17
  have J16 : ∀ (H : Heap) (locs : List Loc) (ls : Array Slot), va_P D vwCl (wX9_isDigit cy ) H → va_D A (wX9_isDigit cy ) → va_S A s.heap H locs → lv_has ls 1 [] → fX9_isDigit_J16 = some zr → W p l e ({ frames := 0, cells := 0, slots := 0, locals := 0 } : Room) s m ([.int x0] : List Value).toArray below meth c H locs 0 0 Q (F0 m 16 ls []) := by
    intro  H locs ls hP hD hS hl hok
    unfold fX9_isDigit_J16 at hok
    refine lv_iconst (v := 0) hx hb dX9_isDigit_16 (by decide) ?_
    exact J17 (0 : Int32) H locs ls hP hD hS (lv_sub hl [] rfl) hok
  unfold fX9_isDigit at hok
  obtain ⟨H, hH⟩ : ∃ H, H = s.heap := ⟨_, rfl⟩
  obtain ⟨locs, hlc⟩ : ∃ x : List Loc, x = [] := ⟨_, rfl⟩
  have hP : va_P D vwCl (wX9_isDigit cy ) H := by rw [hH]; exact hP
  have hS : va_S A s.heap H locs := by rw [hH, hlc]; exact hS
  rw [show W p l e _ s m _ below meth c s.heap [] = W p l e _ s m _ below meth c H locs from by rw [hH, hlc]]
  refine lv_iload_n hx hb dX9_isDigit_0 rfl (lv_at hl 0 rfl) ?_
  refine lv_bipush (v := 48) hx hb dX9_isDigit_1 (by decide) ?_
  refine lv_icmp_lt (tgt := 16) hx hb dX9_isDigit_3 (by decide) (fun c3 => ?_) (fun c3 => ?_)
  · have hok := k_pos c3 hok
    exact J16  H locs ls hP hD hS (lv_sub hl [] rfl) hok
  · have hok := k_neg c3 hok
    refine lv_iload_n hx hb dX9_isDigit_6 rfl (lv_at hl 0 rfl) ?_
    refine lv_bipush (v := 57) hx hb dX9_isDigit_7 (by decide) ?_
    refine lv_icmp_gt (tgt := 16) hx hb dX9_isDigit_9 (by decide) (fun c9 => ?_) (fun c9 => ?_)
    · have hok := k_pos c9 hok
      exact J16  H locs ls hP hD hS (lv_sub hl [] rfl) hok
    · have hok := k_neg c9 hok
      refine lv_iconst (v := 1) hx hb dX9_isDigit_12 (by decide) ?_
      refine lv_goto (tgt := 17) hx hb dX9_isDigit_13 (by decide) ?_
      exact J17 (1 : Int32) H locs ls hP hD hS (lv_sub hl [] rfl) hok
