def wsX8_pays : List Cond := .code yX8_pays cX8_pays 3 (some .int) :: W0
abbrev wX8_pays (cy : Nat → ClassId) (aN : Nat) (qN : Nat → Nat) (aH : Nat) (qH : Nat → Nat) (qU : Nat → Nat) (qD : Nat → Nat) (qG : Nat → Nat) (qW : Nat → Nat) (aH0 : Nat) (fvN_5 : Nat) (fvW_4 : Nat) (vN : Nat → Int32) (vH : Nat → Int32) (vU : Nat → Int32) (vU_nights : Nat → Int32) (vD : Nat → Int32) (vD_now : Nat → Int32) (vU_things : Nat → Int32) (vU_cells : Nat → Int32) (vG : Nat → Int32) (vW : Nat → Int32) (vW_who : Nat → Int32) (vH_kinds : Nat → Int32) (vW_cells : Nat → Int32) (vH_sorts : Nat → Int32) (vH_next : Nat → Int32) (vW_inFront : Nat → Int32) (vH_sizes : Nat → Int32) (vH_width : Nat → Int32) (vU_worths : Nat → Int32) : va_W := [(aN, oX8 vN qN fvN_5), (aH, oX4 vH qH), (qH 7, oX7 vU qU), (qU 3, rI cy 6 vU_nights), (qN 1, oX1 vD qD), (qD 0, rI cy 9 vD_now), (qU 1, rI cy 6 vU_things), (qU 2, rI cy 6 vU_cells), (qN 3, oX3 vG qG), (qG 0, oX6 vW qW fvW_4), (qW 1, rI cy 36 vW_who), (qH 14, rI cy 7 vH_kinds), (qW 0, rI cy 7 vW_cells), (qH 8, rI cy 4 vH_sorts), (qH 10, rI cy 36 vH_next), (qW 2, rI cy 7 vW_inFront), (qH 15, rI cy 7 vH_sizes), (qH 11, rI cy 36 vH_width), (qU 4, rI cy 6 vU_worths)]
set_option maxHeartbeats 4000000 in
set_option maxRecDepth 100000 in
theorem kX8_pays (l : Launch) (D : va_G) (cy : Nat → ClassId) (sz : Nat) (aN : Nat) (qN : Nat → Nat) (aH : Nat) (qH : Nat → Nat) (qU : Nat → Nat) (qD : Nat → Nat) (qG : Nat → Nat) (qW : Nat → Nat) (aH0 : Nat) (vN : Nat → Int32) (vH : Nat → Int32) (vU : Nat → Int32) (vU_nights : Nat → Int32) (vD : Nat → Int32) (vD_now : Nat → Int32) (vU_things : Nat → Int32) (vU_cells : Nat → Int32) (vG : Nat → Int32) (vW : Nat → Int32) (vW_who : Nat → Int32) (vH_kinds : Nat → Int32) (vW_cells : Nat → Int32) (vH_sorts : Nat → Int32) (vH_next : Nat → Int32) (vW_inFront : Nat → Int32) (vH_sizes : Nat → Int32) (vH_width : Nat → Int32) (vU_worths : Nat → Int32) (x1 : Int32) (zr : Int32) (z_vN : Nat → Int32) (z_vW : Nat → Int32) (z_vW_who : Nat → Int32) (z_vW_cells : Nat → Int32) (z_vW_inFront : Nat → Int32) (z_aH0 : Nat) (hok : fX8_pays aH aH0 vN vH vU vU_nights vD vD_now vU_things vU_cells vG vW vW_who vH_kinds vW_cells vH_sorts vH_next vW_inFront vH_sizes vH_width vU_worths x1 = some (zr, z_vN, z_vW, z_vW_who, z_vW_cells, z_vW_inFront, z_aH0)) (A : Nat → Prop) (hAe : va_A (wX8_pays cy aN qN aH qH qU qD qG qW aH0 aH aH0 vN vH vU vU_nights vD vD_now vU_things vU_cells vG vW vW_who vH_kinds vW_cells vH_sorts vH_next vW_inFront vH_sizes vH_width vU_worths) sz = A) : Met l yX8_pays wsX8_pays ({ frames := 5, cells := 0, slots := 0, locals := 124 } : Room) (kPre D cy [.ref aN, .int x1] (wX8_pays cy aN qN aH qH qU qD qG qW aH0 aH aH0 vN vH vU vU_nights vD vD_now vU_things vU_cells vG vW vW_who vH_kinds vW_cells vH_sorts vH_next vW_inFront vH_sizes vH_width vU_worths) sz) (kQi D cy zr A (wX8_pays cy aN qN aH qH qU qD qG qW aH0 aH z_aH0 z_vN vH vU vU_nights vD vD_now vU_things vU_cells vG z_vW z_vW_who vH_kinds z_vW_cells vH_sorts vH_next z_vW_inFront vH_sizes vH_width vU_worths)) 0 0 A := by
  refine Met.ofW (cc := cX8_pays) (maxL := 3) (ret := (some .int)) (by decide) rfl ?_
  intro p e s m args below meth c s₁ B hml hv
  obtain ⟨rfl, hsz, hP, hK, hD0, hN⟩ := hv
  have hx := B.exec
  have hb := B.bytes
  have hr := B.returns
  have ht0 : ∀ w ∈ W0, w.before _ s = true := fun w h => atoms_spec (ws := wsX8_pays) B.pre w (List.mem_cons_of_mem _ h)
  have hown : s.vm.findClass RX8 = some m.cls := findClass_of_methodNamed B.named
  have hlocks := B.notSynchronized
  subst hsz
  have hD : va_D A (wX8_pays cy aN qN aH qH qU qD qG qW aH0 aH aH0 vN vH vU vU_nights vD vD_now vU_things vU_cells vG vW vW_who vH_kinds vW_cells vH_sorts vH_next vW_inFront vH_sizes vH_width vU_worths) := by rw [← hAe]; exact hD0.self
  have hA : ∀ q : Nat, s.heap.size ≤ q → A q := fun q h => by rw [← hAe]; exact Or.inr h
  have hS : va_S A s.heap s.heap [] := va_S.rf
  have hl := lv_entry ([.ref aN, .int x1]) (n := 3) (Nat.le_of_ble_eq_true rfl)
  rw [lg_entry_eq]
  generalize (lg_sl ([.ref aN, .int x1]) ++ List.replicate (3 - (lg_sl ([.ref aN, .int x1])).length) Slot.unset).toArray = ls at hl ⊢
  have hl : lv_has ls 3 [(0, .ref aN), (1, .int x1)] := hl
  unfold fX8_pays at hok
  obtain ⟨H, hH⟩ : ∃ H, H = s.heap := ⟨_, rfl⟩
  obtain ⟨locs, hlc⟩ : ∃ x : List Loc, x = [] := ⟨_, rfl⟩
  have hP : va_P D vwCl (wX8_pays cy aN qN aH qH qU qD qG qW aH0 aH aH0 vN vH vU vU_nights vD vD_now vU_things vU_cells vG vW vW_who vH_kinds vW_cells vH_sorts vH_next vW_inFront vH_sizes vH_width vU_worths) H := by rw [hH]; exact hP
  have hS : va_S A s.heap H locs := by rw [hH, hlc]; exact hS
  rw [show W p l e _ s m _ below meth c s.heap [] = W p l e _ s m _ below meth c H locs from by rw [hH, hlc]]
  refine lv_aload_n hx hb dX8_pays_0 rfl (lv_at hl 0 rfl) ?_
  refine lv_iload_n hx hb dX8_pays_1 rfl (lv_at hl 1 rfl) ?_
  obtain ⟨r2, hc2, hok⟩ := k_bind hok
  refine kCi (wc := (wX8_whyNoWants cy aN qN aH qH aH vN vH)) (wc2 := (wX8_whyNoWants cy aN qN aH qH aH vN vH)) (wr := [(qH 7, oX7 vU qU), (qU 3, rI cy 6 vU_nights), (qN 1, oX1 vD qD), (qD 0, rI cy 9 vD_now), (qU 1, rI cy 6 vU_things), (qU 2, rI cy 6 vU_cells), (qN 3, oX3 vG qG), (qG 0, oX6 vW qW aH0), (qW 1, rI cy 36 vW_who), (qH 14, rI cy 7 vH_kinds), (qW 0, rI cy 7 vW_cells), (qH 8, rI cy 4 vH_sorts), (qH 10, rI cy 36 vH_next), (qW 2, rI cy 7 vW_inFront), (qH 15, rI cy 7 vH_sizes), (qH 11, rI cy 36 vH_width), (qU 4, rI cy 6 vU_worths)]) (ws2 := (wX8_pays cy aN qN aH qH qU qD qG qW aH0 aH aH0 vN vH vU vU_nights vD vD_now vU_things vU_cells vG vW vW_who vH_kinds vW_cells vH_sorts vH_next vW_inFront vH_sizes vH_width vU_worths)) (kRunV (As := [.int x1]) (rest := []) ⟨hx, hb, hml, hown, ht0⟩ (kX8_whyNoWants l D cy _ aN qN aH qH vN vH x1 r2 hc2 _ rfl) (cwV 1 ht0 (gV wd629 wd630 wd631 wd57 wd632) rfl rfl rfl (by decide +kernel) ⟨Nat.le_of_ble_eq_true rfl, Nat.le_of_ble_eq_true rfl⟩) hK hN hP hD [0, 1] rfl (by decide) 0 7 rfl rfl rfl hl.1 rfl (Nat.le_of_ble_eq_true rfl) dX8_pays_2 ⟨Nat.zero_le _, Nat.zero_le _⟩) hP hD hS hA [0, 1] [2, 3, 4, 5, 6, 7, 8, 9, 10, 11, 12, 13, 14, 15, 16, 17, 18] rfl rfl (by decide) (by decide) [17, 18, 0, 1, 2, 3, 4, 5, 6, 7, 8, 9, 10, 11, 12, 13, 14, 15, 16] (by decide) rfl rfl (fun H locs hP hD hS => ?_)
  refine lv_istore_n (lv' := [(2, .int r2), (0, .ref aN), (1, .int x1)]) hx hb dX8_pays_5 rfl hl (by decide) rfl (fun ls hl => ?_)
  refine lv_iload_n hx hb dX8_pays_6 rfl (lv_at hl 0 rfl) ?_
  refine lv_if_eq (tgt := 16) hx hb dX8_pays_7 (by decide) (fun c7 => ?_) (fun c7 => ?_)
  · have hok := k_pos c7 hok
    refine lv_aload_n hx hb dX8_pays_16 rfl (lv_at hl 1 rfl) ?_
    refine lv_aload_n hx hb dX8_pays_17 rfl (lv_at hl 1 rfl) ?_
    refine va_get (D := D) (ci := 7) (v := .ref aH) (C := RX8) (T := TX8) (N := 9) hx hb ht0 niX8 hown hK hP 0 rfl rfl 5 (by decide) (ht0 _ wd522) (fun _ h9 => h9) rfl dX8_pays_18 ?_
    refine va_get (D := D) (ci := 3) (v := .ref (qH 7)) (C := RX4) (T := TX4) (N := 20) hx hb ht0 niX4 hown hK hP 1 rfl rfl 7 (by decide) (ht0 _ wd633) (fun _ h9 => h9) rfl dX8_pays_21 ?_
    refine lv_aload_n hx hb dX8_pays_24 rfl (lv_at hl 1 rfl) ?_
    refine va_get (D := D) (ci := 7) (v := .ref (qN 3)) (C := RX8) (T := TX8) (N := 9) hx hb ht0 niX8 hown hK hP 0 rfl rfl 3 (by decide) (ht0 _ wd616) (fun _ h9 => h9) rfl dX8_pays_25 ?_
    refine lv_aload_n hx hb dX8_pays_28 rfl (lv_at hl 1 rfl) ?_
    refine va_get (D := D) (ci := 7) (v := .ref aH) (C := RX8) (T := TX8) (N := 9) hx hb ht0 niX8 hown hK hP 0 rfl rfl 5 (by decide) (ht0 _ wd522) (fun _ h9 => h9) rfl dX8_pays_29 ?_
    refine lv_aload_n hx hb dX8_pays_32 rfl (lv_at hl 1 rfl) ?_
    refine va_get (D := D) (ci := 7) (v := .ref (qN 1)) (C := RX8) (T := TX8) (N := 9) hx hb ht0 niX8 hown hK hP 0 rfl rfl 1 (by decide) (ht0 _ wd527) (fun _ h9 => h9) rfl dX8_pays_33 ?_
    refine lv_iconst (v := 0) hx hb dX8_pays_36 (by decide) ?_
    refine lv_iload_n hx hb dX8_pays_37 rfl (lv_at hl 2 rfl) ?_
    obtain ⟨⟨r38, vW_38, vW_who_38, vW_cells_38, vW_inFront_38⟩, hc38, hok⟩ := k_bind hok
    try dsimp only at hok
    refine kCi (wc := (wX3_paidWithin cy (qN 3) aH (qN 1) qH qU qD qG qW aH0 aH0 vH vU vU_nights vD vD_now vU_things vU_cells vG vW vW_who vH_kinds vW_cells vH_sorts vH_next vW_inFront vH_sizes vH_width)) (wc2 := (wX3_paidWithin cy (qN 3) aH (qN 1) qH qU qD qG qW aH0 aH vH vU vU_nights vD vD_now vU_things vU_cells vG vW_38 vW_who_38 vH_kinds vW_cells_38 vH_sorts vH_next vW_inFront_38 vH_sizes vH_width)) (wr := [(aN, oX8 vN qN aH), (qU 4, rI cy 6 vU_worths)]) (ws2 := (wX8_pays cy aN qN aH qH qU qD qG qW aH0 aH aH vN vH vU vU_nights vD vD_now vU_things vU_cells vG vW_38 vW_who_38 vH_kinds vW_cells_38 vH_sorts vH_next vW_inFront_38 vH_sizes vH_width vU_worths)) (kRunV (As := [.ref aH, .ref (qN 1), .int 0, .int x1]) (rest := [.ref (qH 7), .ref aN]) ⟨hx, hb, hml, hown, ht0⟩ (kX3_paidWithin l D cy _ (qN 3) aH (qN 1) qH qU qD qG qW aH0 vH vU vU_nights vD vD_now vU_things vU_cells vG vW vW_who vH_kinds vW_cells vH_sorts vH_next vW_inFront vH_sizes vH_width (0 : Int32) x1 r38 vW_38 vW_who_38 vW_cells_38 vW_inFront_38 hc38 _ rfl) (cwV 4 ht0 (gV wd634 wd635 wd636 wd178 wd637) rfl rfl rfl (by decide +kernel) ⟨Nat.le_of_ble_eq_true rfl, Nat.le_of_ble_eq_true rfl⟩) hK hN hP hD [1, 2, 3, 4, 5, 6, 7, 8, 9, 10, 11, 12, 13, 14, 15, 16, 17] rfl (by decide) 8 2 rfl rfl rfl hl.1 rfl (Nat.le_of_ble_eq_true rfl) dX8_pays_38 ⟨Nat.zero_le _, Nat.zero_le _⟩) hP hD hS hA [1, 2, 3, 4, 5, 6, 7, 8, 9, 10, 11, 12, 13, 14, 15, 16, 17] [0, 18] rfl rfl (by decide) (by decide) [0, 2, 3, 4, 5, 6, 7, 8, 9, 10, 11, 12, 13, 14, 15, 16, 17, 18, 1] (by decide) rfl rfl (fun H locs hP hD hS => ?_)
    obtain ⟨r41, hc41, hok⟩ := k_bind hok
    refine kCi (wc := (wX7_worthOf cy (qH 7) qU vU vU_worths)) (wc2 := (wX7_worthOf cy (qH 7) qU vU vU_worths)) (wr := [(aN, oX8 vN qN aH), (aH, oX4 vH qH), (qU 3, rI cy 6 vU_nights), (qN 1, oX1 vD qD), (qD 0, rI cy 9 vD_now), (qU 1, rI cy 6 vU_things), (qU 2, rI cy 6 vU_cells), (qN 3, oX3 vG qG), (qG 0, oX6 vW_38 qW aH), (qW 1, rI cy 36 vW_who_38), (qH 14, rI cy 7 vH_kinds), (qW 0, rI cy 7 vW_cells_38), (qH 8, rI cy 4 vH_sorts), (qH 10, rI cy 36 vH_next), (qW 2, rI cy 7 vW_inFront_38), (qH 15, rI cy 7 vH_sizes), (qH 11, rI cy 36 vH_width)]) (ws2 := (wX8_pays cy aN qN aH qH qU qD qG qW aH0 aH aH vN vH vU vU_nights vD vD_now vU_things vU_cells vG vW_38 vW_who_38 vH_kinds vW_cells_38 vH_sorts vH_next vW_inFront_38 vH_sizes vH_width vU_worths)) (kRunV (As := [.int r38]) (rest := [.ref aN]) ⟨hx, hb, hml, hown, ht0⟩ (kX7_worthOf l D cy _ (qH 7) qU vU vU_worths r38 r41 hc41 _ rfl) (cwV 1 ht0 (gV wd638 wd229 wd230 wd218 wd231) rfl rfl rfl (by decide +kernel) ⟨Nat.le_of_ble_eq_true rfl, Nat.le_of_ble_eq_true rfl⟩) hK hN hP hD [2, 18] rfl (by decide) 2 6 rfl rfl rfl hl.1 rfl (Nat.le_of_ble_eq_true rfl) dX8_pays_41 ⟨Nat.zero_le _, Nat.zero_le _⟩) hP hD hS hA [2, 18] [0, 1, 3, 4, 5, 6, 7, 8, 9, 10, 11, 12, 13, 14, 15, 16, 17] rfl rfl (by decide) (by decide) [0, 1, 17, 2, 3, 4, 5, 6, 7, 8, 9, 10, 11, 12, 13, 14, 15, 16, 18] (by decide) rfl rfl (fun H locs hP hD hS => ?_)
    obtain ⟨⟨r44, vN_44⟩, hc44, hok⟩ := k_bind hok
    try dsimp only at hok
    refine kCi (wc := (wX8_answer cy aN qN aH aH vN)) (wc2 := (wX8_answer cy aN qN aH aH vN_44)) (wr := [(aH, oX4 vH qH), (qH 7, oX7 vU qU), (qU 3, rI cy 6 vU_nights), (qN 1, oX1 vD qD), (qD 0, rI cy 9 vD_now), (qU 1, rI cy 6 vU_things), (qU 2, rI cy 6 vU_cells), (qN 3, oX3 vG qG), (qG 0, oX6 vW_38 qW aH), (qW 1, rI cy 36 vW_who_38), (qH 14, rI cy 7 vH_kinds), (qW 0, rI cy 7 vW_cells_38), (qH 8, rI cy 4 vH_sorts), (qH 10, rI cy 36 vH_next), (qW 2, rI cy 7 vW_inFront_38), (qH 15, rI cy 7 vH_sizes), (qH 11, rI cy 36 vH_width), (qU 4, rI cy 6 vU_worths)]) (ws2 := (wX8_pays cy aN qN aH qH qU qD qG qW aH0 aH aH vN_44 vH vU vU_nights vD vD_now vU_things vU_cells vG vW_38 vW_who_38 vH_kinds vW_cells_38 vH_sorts vH_next vW_inFront_38 vH_sizes vH_width vU_worths)) (kRunV (As := [.int r41]) (rest := []) ⟨hx, hb, hml, hown, ht0⟩ (kX8_answer l D cy _ aN qN aH vN r41 r44 vN_44 hc44 _ rfl) (cwV 1 ht0 (gV wd538 wd539 wd540 wd57 wd541) rfl rfl rfl (by decide +kernel) ⟨Nat.le_of_ble_eq_true rfl, Nat.le_of_ble_eq_true rfl⟩) hK hN hP hD [0] rfl (by decide) 0 7 rfl rfl rfl hl.1 rfl (Nat.le_of_ble_eq_true rfl) dX8_pays_44 ⟨Nat.zero_le _, Nat.zero_le _⟩) hP hD hS hA [0] [1, 2, 3, 4, 5, 6, 7, 8, 9, 10, 11, 12, 13, 14, 15, 16, 17, 18] rfl rfl (by decide) (by decide) [18, 0, 1, 2, 3, 4, 5, 6, 7, 8, 9, 10, 11, 12, 13, 14, 15, 16, 17] (by decide) rfl rfl (fun H locs hP hD hS => ?_)
    cases hok
    exact W.iret hx hb hr (fun t ht hW => ⟨⟨_, (), rfl, rfl, by rw [ht]; exact hP, va_K.moved hW.alike hK, hD⟩, hS.F ht⟩) hS.2.2 dX8_pays_47
  · have hok := k_neg c7 hok
    refine lv_aload_n hx hb dX8_pays_10 rfl (lv_at hl 1 rfl) ?_
    refine lv_iload_n hx hb dX8_pays_11 rfl (lv_at hl 0 rfl) ?_
    obtain ⟨⟨r12, vN_12⟩, hc12, hok⟩ := k_bind hok
    try dsimp only at hok
    refine kCi (wc := (wX8_refuse cy aN qN aH aH vN)) (wc2 := (wX8_refuse cy aN qN aH aH vN_12)) (wr := [(aH, oX4 vH qH), (qH 7, oX7 vU qU), (qU 3, rI cy 6 vU_nights), (qN 1, oX1 vD qD), (qD 0, rI cy 9 vD_now), (qU 1, rI cy 6 vU_things), (qU 2, rI cy 6 vU_cells), (qN 3, oX3 vG qG), (qG 0, oX6 vW qW aH0), (qW 1, rI cy 36 vW_who), (qH 14, rI cy 7 vH_kinds), (qW 0, rI cy 7 vW_cells), (qH 8, rI cy 4 vH_sorts), (qH 10, rI cy 36 vH_next), (qW 2, rI cy 7 vW_inFront), (qH 15, rI cy 7 vH_sizes), (qH 11, rI cy 36 vH_width), (qU 4, rI cy 6 vU_worths)]) (ws2 := (wX8_pays cy aN qN aH qH qU qD qG qW aH0 aH aH0 vN_12 vH vU vU_nights vD vD_now vU_things vU_cells vG vW vW_who vH_kinds vW_cells vH_sorts vH_next vW_inFront vH_sizes vH_width vU_worths)) (kRunV (As := [.int r2]) (rest := []) ⟨hx, hb, hml, hown, ht0⟩ (kX8_refuse l D cy _ aN qN aH vN r2 r12 vN_12 hc12 _ rfl) (cwV 1 ht0 (gV wd504 wd505 wd506 wd57 wd507) rfl rfl rfl (by decide +kernel) ⟨Nat.le_of_ble_eq_true rfl, Nat.le_of_ble_eq_true rfl⟩) hK hN hP hD [0] rfl (by decide) 0 7 rfl rfl rfl hl.1 rfl (Nat.le_of_ble_eq_true rfl) dX8_pays_12 ⟨Nat.zero_le _, Nat.zero_le _⟩) hP hD hS hA [0] [1, 2, 3, 4, 5, 6, 7, 8, 9, 10, 11, 12, 13, 14, 15, 16, 17, 18] rfl rfl (by decide) (by decide) [18, 0, 1, 2, 3, 4, 5, 6, 7, 8, 9, 10, 11, 12, 13, 14, 15, 16, 17] (by decide) rfl rfl (fun H locs hP hD hS => ?_)
    cases hok
    exact W.iret hx hb hr (fun t ht hW => ⟨⟨_, (), rfl, rfl, by rw [ht]; exact hP, va_K.moved hW.alike hK, hD⟩, hS.F ht⟩) hS.2.2 dX8_pays_15
def wsX8_best : List Cond := .code yX8_best cX8_best 3 (some .int) :: W0
abbrev wX8_best (cy : Nat → ClassId) (aN : Nat) (qN : Nat → Nat) (aH : Nat) (qH : Nat → Nat) (qU : Nat → Nat) (qD : Nat → Nat) (qG : Nat → Nat) (qW : Nat → Nat) (aH0 : Nat) (fvN_5 : Nat) (fvW_4 : Nat) (vN : Nat → Int32) (vH : Nat → Int32) (vU : Nat → Int32) (vU_nights : Nat → Int32) (vD : Nat → Int32) (vD_now : Nat → Int32) (vU_things : Nat → Int32) (vU_cells : Nat → Int32) (vU_worths : Nat → Int32) (vH_kinds : Nat → Int32) (vG : Nat → Int32) (vW : Nat → Int32) (vW_who : Nat → Int32) (vW_cells : Nat → Int32) (vH_sorts : Nat → Int32) (vH_next : Nat → Int32) (vW_inFront : Nat → Int32) (vH_sizes : Nat → Int32) (vH_width : Nat → Int32) : va_W := [(aN, oX8 vN qN fvN_5), (aH, oX4 vH qH), (qH 7, oX7 vU qU), (qU 3, rI cy 6 vU_nights), (qN 1, oX1 vD qD), (qD 0, rI cy 9 vD_now), (qU 1, rI cy 6 vU_things), (qU 2, rI cy 6 vU_cells), (qU 4, rI cy 6 vU_worths), (qH 14, rI cy 7 vH_kinds), (qN 3, oX3 vG qG), (qG 0, oX6 vW qW fvW_4), (qW 1, rI cy 36 vW_who), (qW 0, rI cy 7 vW_cells), (qH 8, rI cy 4 vH_sorts), (qH 10, rI cy 36 vH_next), (qW 2, rI cy 7 vW_inFront), (qH 15, rI cy 7 vH_sizes), (qH 11, rI cy 36 vH_width)]
set_option maxHeartbeats 4000000 in
set_option maxRecDepth 100000 in
theorem kX8_best (l : Launch) (D : va_G) (cy : Nat → ClassId) (sz : Nat) (aN : Nat) (qN : Nat → Nat) (aH : Nat) (qH : Nat → Nat) (qU : Nat → Nat) (qD : Nat → Nat) (qG : Nat → Nat) (qW : Nat → Nat) (aH0 : Nat) (vN : Nat → Int32) (vH : Nat → Int32) (vU : Nat → Int32) (vU_nights : Nat → Int32) (vD : Nat → Int32) (vD_now : Nat → Int32) (vU_things : Nat → Int32) (vU_cells : Nat → Int32) (vU_worths : Nat → Int32) (vH_kinds : Nat → Int32) (vG : Nat → Int32) (vW : Nat → Int32) (vW_who : Nat → Int32) (vW_cells : Nat → Int32) (vH_sorts : Nat → Int32) (vH_next : Nat → Int32) (vW_inFront : Nat → Int32) (vH_sizes : Nat → Int32) (vH_width : Nat → Int32) (x1 : Int32) (zr : Int32) (z_vN : Nat → Int32) (z_vW : Nat → Int32) (z_vW_who : Nat → Int32) (z_vW_cells : Nat → Int32) (z_vW_inFront : Nat → Int32) (z_aH0 : Nat) (hok : fX8_best aH aH0 vN vH vU vU_nights vD vD_now vU_things vU_cells vU_worths vH_kinds vG vW vW_who vW_cells vH_sorts vH_next vW_inFront vH_sizes vH_width x1 = some (zr, z_vN, z_vW, z_vW_who, z_vW_cells, z_vW_inFront, z_aH0)) (A : Nat → Prop) (hAe : va_A (wX8_best cy aN qN aH qH qU qD qG qW aH0 aH aH0 vN vH vU vU_nights vD vD_now vU_things vU_cells vU_worths vH_kinds vG vW vW_who vW_cells vH_sorts vH_next vW_inFront vH_sizes vH_width) sz = A) : Met l yX8_best wsX8_best ({ frames := 6, cells := 0, slots := 0, locals := 157 } : Room) (kPre D cy [.ref aN, .int x1] (wX8_best cy aN qN aH qH qU qD qG qW aH0 aH aH0 vN vH vU vU_nights vD vD_now vU_things vU_cells vU_worths vH_kinds vG vW vW_who vW_cells vH_sorts vH_next vW_inFront vH_sizes vH_width) sz) (kQi D cy zr A (wX8_best cy aN qN aH qH qU qD qG qW aH0 aH z_aH0 z_vN vH vU vU_nights vD vD_now vU_things vU_cells vU_worths vH_kinds vG z_vW z_vW_who z_vW_cells vH_sorts vH_next z_vW_inFront vH_sizes vH_width)) 0 0 A := by
  refine Met.ofW (cc := cX8_best) (maxL := 3) (ret := (some .int)) (by decide) rfl ?_
  intro p e s m args below meth c s₁ B hml hv
  obtain ⟨rfl, hsz, hP, hK, hD0, hN⟩ := hv
  have hx := B.exec
  have hb := B.bytes
  have hr := B.returns
  have ht0 : ∀ w ∈ W0, w.before _ s = true := fun w h => atoms_spec (ws := wsX8_best) B.pre w (List.mem_cons_of_mem _ h)
  have hown : s.vm.findClass RX8 = some m.cls := findClass_of_methodNamed B.named
  have hlocks := B.notSynchronized
  subst hsz
  have hD : va_D A (wX8_best cy aN qN aH qH qU qD qG qW aH0 aH aH0 vN vH vU vU_nights vD vD_now vU_things vU_cells vU_worths vH_kinds vG vW vW_who vW_cells vH_sorts vH_next vW_inFront vH_sizes vH_width) := by rw [← hAe]; exact hD0.self
  have hA : ∀ q : Nat, s.heap.size ≤ q → A q := fun q h => by rw [← hAe]; exact Or.inr h
  have hS : va_S A s.heap s.heap [] := va_S.rf
  have hl := lv_entry ([.ref aN, .int x1]) (n := 3) (Nat.le_of_ble_eq_true rfl)
  rw [lg_entry_eq]
  generalize (lg_sl ([.ref aN, .int x1]) ++ List.replicate (3 - (lg_sl ([.ref aN, .int x1])).length) Slot.unset).toArray = ls at hl ⊢
  have hl : lv_has ls 3 [(0, .ref aN), (1, .int x1)] := hl
  unfold fX8_best at hok
  obtain ⟨H, hH⟩ : ∃ H, H = s.heap := ⟨_, rfl⟩
  obtain ⟨locs, hlc⟩ : ∃ x : List Loc, x = [] := ⟨_, rfl⟩
  have hP : va_P D vwCl (wX8_best cy aN qN aH qH qU qD qG qW aH0 aH aH0 vN vH vU vU_nights vD vD_now vU_things vU_cells vU_worths vH_kinds vG vW vW_who vW_cells vH_sorts vH_next vW_inFront vH_sizes vH_width) H := by rw [hH]; exact hP
  have hS : va_S A s.heap H locs := by rw [hH, hlc]; exact hS
  rw [show W p l e _ s m _ below meth c s.heap [] = W p l e _ s m _ below meth c H locs from by rw [hH, hlc]]
  refine lv_aload_n hx hb dX8_best_0 rfl (lv_at hl 0 rfl) ?_
  refine lv_iload_n hx hb dX8_best_1 rfl (lv_at hl 1 rfl) ?_
  obtain ⟨r2, hc2, hok⟩ := k_bind hok
  refine kCi (wc := (wX8_whyNoWants cy aN qN aH qH aH vN vH)) (wc2 := (wX8_whyNoWants cy aN qN aH qH aH vN vH)) (wr := [(qH 7, oX7 vU qU), (qU 3, rI cy 6 vU_nights), (qN 1, oX1 vD qD), (qD 0, rI cy 9 vD_now), (qU 1, rI cy 6 vU_things), (qU 2, rI cy 6 vU_cells), (qU 4, rI cy 6 vU_worths), (qH 14, rI cy 7 vH_kinds), (qN 3, oX3 vG qG), (qG 0, oX6 vW qW aH0), (qW 1, rI cy 36 vW_who), (qW 0, rI cy 7 vW_cells), (qH 8, rI cy 4 vH_sorts), (qH 10, rI cy 36 vH_next), (qW 2, rI cy 7 vW_inFront), (qH 15, rI cy 7 vH_sizes), (qH 11, rI cy 36 vH_width)]) (ws2 := (wX8_best cy aN qN aH qH qU qD qG qW aH0 aH aH0 vN vH vU vU_nights vD vD_now vU_things vU_cells vU_worths vH_kinds vG vW vW_who vW_cells vH_sorts vH_next vW_inFront vH_sizes vH_width)) (kRunV (As := [.int x1]) (rest := []) ⟨hx, hb, hml, hown, ht0⟩ (kX8_whyNoWants l D cy _ aN qN aH qH vN vH x1 r2 hc2 _ rfl) (cwV 1 ht0 (gV wd629 wd630 wd631 wd57 wd632) rfl rfl rfl (by decide +kernel) ⟨Nat.le_of_ble_eq_true rfl, Nat.le_of_ble_eq_true rfl⟩) hK hN hP hD [0, 1] rfl (by decide) 0 7 rfl rfl rfl hl.1 rfl (Nat.le_of_ble_eq_true rfl) dX8_best_2 ⟨Nat.zero_le _, Nat.zero_le _⟩) hP hD hS hA [0, 1] [2, 3, 4, 5, 6, 7, 8, 9, 10, 11, 12, 13, 14, 15, 16, 17, 18] rfl rfl (by decide) (by decide) [17, 18, 0, 1, 2, 3, 4, 5, 6, 7, 8, 9, 10, 11, 12, 13, 14, 15, 16] (by decide) rfl rfl (fun H locs hP hD hS => ?_)
  refine lv_istore_n (lv' := [(2, .int r2), (0, .ref aN), (1, .int x1)]) hx hb dX8_best_5 rfl hl (by decide) rfl (fun ls hl => ?_)
  refine lv_iload_n hx hb dX8_best_6 rfl (lv_at hl 0 rfl) ?_
  refine lv_if_eq (tgt := 16) hx hb dX8_best_7 (by decide) (fun c7 => ?_) (fun c7 => ?_)
  · have hok := k_pos c7 hok
    refine lv_aload_n hx hb dX8_best_16 rfl (lv_at hl 1 rfl) ?_
    refine lv_aload_n hx hb dX8_best_17 rfl (lv_at hl 1 rfl) ?_
    refine va_get (D := D) (ci := 7) (v := .ref (qN 3)) (C := RX8) (T := TX8) (N := 9) hx hb ht0 niX8 hown hK hP 0 rfl rfl 3 (by decide) (ht0 _ wd616) (fun _ h9 => h9) rfl dX8_best_18 ?_
    refine lv_aload_n hx hb dX8_best_21 rfl (lv_at hl 1 rfl) ?_
    refine va_get (D := D) (ci := 7) (v := .ref aH) (C := RX8) (T := TX8) (N := 9) hx hb ht0 niX8 hown hK hP 0 rfl rfl 5 (by decide) (ht0 _ wd522) (fun _ h9 => h9) rfl dX8_best_22 ?_
    refine lv_aload_n hx hb dX8_best_25 rfl (lv_at hl 1 rfl) ?_
    refine va_get (D := D) (ci := 7) (v := .ref (qN 1)) (C := RX8) (T := TX8) (N := 9) hx hb ht0 niX8 hown hK hP 0 rfl rfl 1 (by decide) (ht0 _ wd527) (fun _ h9 => h9) rfl dX8_best_26 ?_
    refine lv_iload_n hx hb dX8_best_29 rfl (lv_at hl 2 rfl) ?_
    obtain ⟨⟨r30, vW_30, vW_who_30, vW_cells_30, vW_inFront_30, aH0_30⟩, hc30, hok⟩ := k_bind hok
    try dsimp only at hok
    refine kCi (wc := (wX3_bestFor cy (qN 3) aH (qN 1) qH qU qD qG qW aH0 aH0 vH vU vU_nights vD vD_now vU_things vU_cells vU_worths vH_kinds vG vW vW_who vW_cells vH_sorts vH_next vW_inFront vH_sizes vH_width)) (wc2 := (wX3_bestFor cy (qN 3) aH (qN 1) qH qU qD qG qW aH0 aH0_30 vH vU vU_nights vD vD_now vU_things vU_cells vU_worths vH_kinds vG vW_30 vW_who_30 vW_cells_30 vH_sorts vH_next vW_inFront_30 vH_sizes vH_width)) (wr := [(aN, oX8 vN qN aH)]) (ws2 := (wX8_best cy aN qN aH qH qU qD qG qW aH0 aH aH0_30 vN vH vU vU_nights vD vD_now vU_things vU_cells vU_worths vH_kinds vG vW_30 vW_who_30 vW_cells_30 vH_sorts vH_next vW_inFront_30 vH_sizes vH_width)) (kRunV (As := [.ref aH, .ref (qN 1), .int x1]) (rest := [.ref aN]) ⟨hx, hb, hml, hown, ht0⟩ (kX3_bestFor l D cy _ (qN 3) aH (qN 1) qH qU qD qG qW aH0 vH vU vU_nights vD vD_now vU_things vU_cells vU_worths vH_kinds vG vW vW_who vW_cells vH_sorts vH_next vW_inFront vH_sizes vH_width x1 r30 vW_30 vW_who_30 vW_cells_30 vW_inFront_30 aH0_30 hc30 _ rfl) (cwV 3 ht0 (gV wd639 wd640 wd641 wd178 wd642) rfl rfl rfl (by decide +kernel) ⟨Nat.le_of_ble_eq_true rfl, Nat.le_of_ble_eq_true rfl⟩) hK hN hP hD [1, 2, 3, 4, 5, 6, 7, 8, 9, 10, 11, 12, 13, 14, 15, 16, 17, 18] rfl (by decide) 10 2 rfl rfl rfl hl.1 rfl (Nat.le_of_ble_eq_true rfl) dX8_best_30 ⟨Nat.zero_le _, Nat.zero_le _⟩) hP hD hS hA [1, 2, 3, 4, 5, 6, 7, 8, 9, 10, 11, 12, 13, 14, 15, 16, 17, 18] [0] rfl rfl (by decide) (by decide) [0, 1, 2, 3, 4, 5, 6, 7, 8, 9, 10, 11, 12, 13, 14, 15, 16, 17, 18] (by decide) rfl rfl (fun H locs hP hD hS => ?_)
    obtain ⟨⟨r33, vN_33⟩, hc33, hok⟩ := k_bind hok
    try dsimp only at hok
    refine kCi (wc := (wX8_answer cy aN qN aH aH vN)) (wc2 := (wX8_answer cy aN qN aH aH vN_33)) (wr := [(aH, oX4 vH qH), (qH 7, oX7 vU qU), (qU 3, rI cy 6 vU_nights), (qN 1, oX1 vD qD), (qD 0, rI cy 9 vD_now), (qU 1, rI cy 6 vU_things), (qU 2, rI cy 6 vU_cells), (qU 4, rI cy 6 vU_worths), (qH 14, rI cy 7 vH_kinds), (qN 3, oX3 vG qG), (qG 0, oX6 vW_30 qW aH0_30), (qW 1, rI cy 36 vW_who_30), (qW 0, rI cy 7 vW_cells_30), (qH 8, rI cy 4 vH_sorts), (qH 10, rI cy 36 vH_next), (qW 2, rI cy 7 vW_inFront_30), (qH 15, rI cy 7 vH_sizes), (qH 11, rI cy 36 vH_width)]) (ws2 := (wX8_best cy aN qN aH qH qU qD qG qW aH0 aH aH0_30 vN_33 vH vU vU_nights vD vD_now vU_things vU_cells vU_worths vH_kinds vG vW_30 vW_who_30 vW_cells_30 vH_sorts vH_next vW_inFront_30 vH_sizes vH_width)) (kRunV (As := [.int r30]) (rest := []) ⟨hx, hb, hml, hown, ht0⟩ (kX8_answer l D cy _ aN qN aH vN r30 r33 vN_33 hc33 _ rfl) (cwV 1 ht0 (gV wd538 wd539 wd540 wd57 wd541) rfl rfl rfl (by decide +kernel) ⟨Nat.le_of_ble_eq_true rfl, Nat.le_of_ble_eq_true rfl⟩) hK hN hP hD [0] rfl (by decide) 0 7 rfl rfl rfl hl.1 rfl (Nat.le_of_ble_eq_true rfl) dX8_best_33 ⟨Nat.zero_le _, Nat.zero_le _⟩) hP hD hS hA [0] [1, 2, 3, 4, 5, 6, 7, 8, 9, 10, 11, 12, 13, 14, 15, 16, 17, 18] rfl rfl (by decide) (by decide) [18, 0, 1, 2, 3, 4, 5, 6, 7, 8, 9, 10, 11, 12, 13, 14, 15, 16, 17] (by decide) rfl rfl (fun H locs hP hD hS => ?_)
    cases hok
    exact W.iret hx hb hr (fun t ht hW => ⟨⟨_, (), rfl, rfl, by rw [ht]; exact hP, va_K.moved hW.alike hK, hD⟩, hS.F ht⟩) hS.2.2 dX8_best_36
  · have hok := k_neg c7 hok
    refine lv_aload_n hx hb dX8_best_10 rfl (lv_at hl 1 rfl) ?_
    refine lv_iload_n hx hb dX8_best_11 rfl (lv_at hl 0 rfl) ?_
    obtain ⟨⟨r12, vN_12⟩, hc12, hok⟩ := k_bind hok
    try dsimp only at hok
    refine kCi (wc := (wX8_refuse cy aN qN aH aH vN)) (wc2 := (wX8_refuse cy aN qN aH aH vN_12)) (wr := [(aH, oX4 vH qH), (qH 7, oX7 vU qU), (qU 3, rI cy 6 vU_nights), (qN 1, oX1 vD qD), (qD 0, rI cy 9 vD_now), (qU 1, rI cy 6 vU_things), (qU 2, rI cy 6 vU_cells), (qU 4, rI cy 6 vU_worths), (qH 14, rI cy 7 vH_kinds), (qN 3, oX3 vG qG), (qG 0, oX6 vW qW aH0), (qW 1, rI cy 36 vW_who), (qW 0, rI cy 7 vW_cells), (qH 8, rI cy 4 vH_sorts), (qH 10, rI cy 36 vH_next), (qW 2, rI cy 7 vW_inFront), (qH 15, rI cy 7 vH_sizes), (qH 11, rI cy 36 vH_width)]) (ws2 := (wX8_best cy aN qN aH qH qU qD qG qW aH0 aH aH0 vN_12 vH vU vU_nights vD vD_now vU_things vU_cells vU_worths vH_kinds vG vW vW_who vW_cells vH_sorts vH_next vW_inFront vH_sizes vH_width)) (kRunV (As := [.int r2]) (rest := []) ⟨hx, hb, hml, hown, ht0⟩ (kX8_refuse l D cy _ aN qN aH vN r2 r12 vN_12 hc12 _ rfl) (cwV 1 ht0 (gV wd504 wd505 wd506 wd57 wd507) rfl rfl rfl (by decide +kernel) ⟨Nat.le_of_ble_eq_true rfl, Nat.le_of_ble_eq_true rfl⟩) hK hN hP hD [0] rfl (by decide) 0 7 rfl rfl rfl hl.1 rfl (Nat.le_of_ble_eq_true rfl) dX8_best_12 ⟨Nat.zero_le _, Nat.zero_le _⟩) hP hD hS hA [0] [1, 2, 3, 4, 5, 6, 7, 8, 9, 10, 11, 12, 13, 14, 15, 16, 17, 18] rfl rfl (by decide) (by decide) [18, 0, 1, 2, 3, 4, 5, 6, 7, 8, 9, 10, 11, 12, 13, 14, 15, 16, 17] (by decide) rfl rfl (fun H locs hP hD hS => ?_)
    cases hok
    exact W.iret hx hb hr (fun t ht hW => ⟨⟨_, (), rfl, rfl, by rw [ht]; exact hP, va_K.moved hW.alike hK, hD⟩, hS.F ht⟩) hS.2.2 dX8_best_15
def wsX8_bestPays : List Cond := .code yX8_bestPays cX8_bestPays 4 (some .int) :: W0
abbrev wX8_bestPays (cy : Nat → ClassId) (aN : Nat) (qN : Nat → Nat) (aH : Nat) (qH : Nat → Nat) (qU : Nat → Nat) (qD : Nat → Nat) (qG : Nat → Nat) (qW : Nat → Nat) (aH0 : Nat) (fvN_5 : Nat) (fvW_4 : Nat) (vN : Nat → Int32) (vH : Nat → Int32) (vU : Nat → Int32) (vU_nights : Nat → Int32) (vD : Nat → Int32) (vD_now : Nat → Int32) (vU_things : Nat → Int32) (vU_cells : Nat → Int32) (vU_worths : Nat → Int32) (vH_kinds : Nat → Int32) (vG : Nat → Int32) (vW : Nat → Int32) (vW_who : Nat → Int32) (vW_cells : Nat → Int32) (vH_sorts : Nat → Int32) (vH_next : Nat → Int32) (vW_inFront : Nat → Int32) (vH_sizes : Nat → Int32) (vH_width : Nat → Int32) : va_W := [(aN, oX8 vN qN fvN_5), (aH, oX4 vH qH), (qH 7, oX7 vU qU), (qU 3, rI cy 6 vU_nights), (qN 1, oX1 vD qD), (qD 0, rI cy 9 vD_now), (qU 1, rI cy 6 vU_things), (qU 2, rI cy 6 vU_cells), (qU 4, rI cy 6 vU_worths), (qH 14, rI cy 7 vH_kinds), (qN 3, oX3 vG qG), (qG 0, oX6 vW qW fvW_4), (qW 1, rI cy 36 vW_who), (qW 0, rI cy 7 vW_cells), (qH 8, rI cy 4 vH_sorts), (qH 10, rI cy 36 vH_next), (qW 2, rI cy 7 vW_inFront), (qH 15, rI cy 7 vH_sizes), (qH 11, rI cy 36 vH_width)]
set_option maxHeartbeats 4000000 in
set_option maxRecDepth 100000 in
theorem kX8_bestPays (l : Launch) (D : va_G) (cy : Nat → ClassId) (sz : Nat) (aN : Nat) (qN : Nat → Nat) (aH : Nat) (qH : Nat → Nat) (qU : Nat → Nat) (qD : Nat → Nat) (qG : Nat → Nat) (qW : Nat → Nat) (aH0 : Nat) (vN : Nat → Int32) (vH : Nat → Int32) (vU : Nat → Int32) (vU_nights : Nat → Int32) (vD : Nat → Int32) (vD_now : Nat → Int32) (vU_things : Nat → Int32) (vU_cells : Nat → Int32) (vU_worths : Nat → Int32) (vH_kinds : Nat → Int32) (vG : Nat → Int32) (vW : Nat → Int32) (vW_who : Nat → Int32) (vW_cells : Nat → Int32) (vH_sorts : Nat → Int32) (vH_next : Nat → Int32) (vW_inFront : Nat → Int32) (vH_sizes : Nat → Int32) (vH_width : Nat → Int32) (x1 : Int32) (zr : Int32) (z_vN : Nat → Int32) (z_vW : Nat → Int32) (z_vW_who : Nat → Int32) (z_vW_cells : Nat → Int32) (z_vW_inFront : Nat → Int32) (z_aH0 : Nat) (hok : fX8_bestPays aH aH0 vN vH vU vU_nights vD vD_now vU_things vU_cells vU_worths vH_kinds vG vW vW_who vW_cells vH_sorts vH_next vW_inFront vH_sizes vH_width x1 = some (zr, z_vN, z_vW, z_vW_who, z_vW_cells, z_vW_inFront, z_aH0)) (A : Nat → Prop) (hAe : va_A (wX8_bestPays cy aN qN aH qH qU qD qG qW aH0 aH aH0 vN vH vU vU_nights vD vD_now vU_things vU_cells vU_worths vH_kinds vG vW vW_who vW_cells vH_sorts vH_next vW_inFront vH_sizes vH_width) sz = A) : Met l yX8_bestPays wsX8_bestPays ({ frames := 6, cells := 0, slots := 0, locals := 157 } : Room) (kPre D cy [.ref aN, .int x1] (wX8_bestPays cy aN qN aH qH qU qD qG qW aH0 aH aH0 vN vH vU vU_nights vD vD_now vU_things vU_cells vU_worths vH_kinds vG vW vW_who vW_cells vH_sorts vH_next vW_inFront vH_sizes vH_width) sz) (kQi D cy zr A (wX8_bestPays cy aN qN aH qH qU qD qG qW aH0 aH z_aH0 z_vN vH vU vU_nights vD vD_now vU_things vU_cells vU_worths vH_kinds vG z_vW z_vW_who z_vW_cells vH_sorts vH_next z_vW_inFront vH_sizes vH_width)) 0 0 A := by
  refine Met.ofW (cc := cX8_bestPays) (maxL := 4) (ret := (some .int)) (by decide) rfl ?_
  intro p e s m args below meth c s₁ B hml hv
  obtain ⟨rfl, hsz, hP, hK, hD0, hN⟩ := hv
  have hx := B.exec
  have hb := B.bytes
  have hr := B.returns
  have ht0 : ∀ w ∈ W0, w.before _ s = true := fun w h => atoms_spec (ws := wsX8_bestPays) B.pre w (List.mem_cons_of_mem _ h)
  have hown : s.vm.findClass RX8 = some m.cls := findClass_of_methodNamed B.named
  have hlocks := B.notSynchronized
  subst hsz
  have hD : va_D A (wX8_bestPays cy aN qN aH qH qU qD qG qW aH0 aH aH0 vN vH vU vU_nights vD vD_now vU_things vU_cells vU_worths vH_kinds vG vW vW_who vW_cells vH_sorts vH_next vW_inFront vH_sizes vH_width) := by rw [← hAe]; exact hD0.self
  have hA : ∀ q : Nat, s.heap.size ≤ q → A q := fun q h => by rw [← hAe]; exact Or.inr h
  have hS : va_S A s.heap s.heap [] := va_S.rf
  have hl := lv_entry ([.ref aN, .int x1]) (n := 4) (Nat.le_of_ble_eq_true rfl)
  rw [lg_entry_eq]
  generalize (lg_sl ([.ref aN, .int x1]) ++ List.replicate (4 - (lg_sl ([.ref aN, .int x1])).length) Slot.unset).toArray = ls at hl ⊢
  have hl : lv_has ls 4 [(0, .ref aN), (1, .int x1)] := hl
  unfold fX8_bestPays at hok
  obtain ⟨H, hH⟩ : ∃ H, H = s.heap := ⟨_, rfl⟩
  obtain ⟨locs, hlc⟩ : ∃ x : List Loc, x = [] := ⟨_, rfl⟩
  have hP : va_P D vwCl (wX8_bestPays cy aN qN aH qH qU qD qG qW aH0 aH aH0 vN vH vU vU_nights vD vD_now vU_things vU_cells vU_worths vH_kinds vG vW vW_who vW_cells vH_sorts vH_next vW_inFront vH_sizes vH_width) H := by rw [hH]; exact hP
  have hS : va_S A s.heap H locs := by rw [hH, hlc]; exact hS
  rw [show W p l e _ s m _ below meth c s.heap [] = W p l e _ s m _ below meth c H locs from by rw [hH, hlc]]
  refine lv_aload_n hx hb dX8_bestPays_0 rfl (lv_at hl 0 rfl) ?_
  refine lv_iload_n hx hb dX8_bestPays_1 rfl (lv_at hl 1 rfl) ?_
  obtain ⟨r2, hc2, hok⟩ := k_bind hok
  refine kCi (wc := (wX8_whyNoWants cy aN qN aH qH aH vN vH)) (wc2 := (wX8_whyNoWants cy aN qN aH qH aH vN vH)) (wr := [(qH 7, oX7 vU qU), (qU 3, rI cy 6 vU_nights), (qN 1, oX1 vD qD), (qD 0, rI cy 9 vD_now), (qU 1, rI cy 6 vU_things), (qU 2, rI cy 6 vU_cells), (qU 4, rI cy 6 vU_worths), (qH 14, rI cy 7 vH_kinds), (qN 3, oX3 vG qG), (qG 0, oX6 vW qW aH0), (qW 1, rI cy 36 vW_who), (qW 0, rI cy 7 vW_cells), (qH 8, rI cy 4 vH_sorts), (qH 10, rI cy 36 vH_next), (qW 2, rI cy 7 vW_inFront), (qH 15, rI cy 7 vH_sizes), (qH 11, rI cy 36 vH_width)]) (ws2 := (wX8_bestPays cy aN qN aH qH qU qD qG qW aH0 aH aH0 vN vH vU vU_nights vD vD_now vU_things vU_cells vU_worths vH_kinds vG vW vW_who vW_cells vH_sorts vH_next vW_inFront vH_sizes vH_width)) (kRunV (As := [.int x1]) (rest := []) ⟨hx, hb, hml, hown, ht0⟩ (kX8_whyNoWants l D cy _ aN qN aH qH vN vH x1 r2 hc2 _ rfl) (cwV 1 ht0 (gV wd629 wd630 wd631 wd57 wd632) rfl rfl rfl (by decide +kernel) ⟨Nat.le_of_ble_eq_true rfl, Nat.le_of_ble_eq_true rfl⟩) hK hN hP hD [0, 1] rfl (by decide) 0 7 rfl rfl rfl hl.1 rfl (Nat.le_of_ble_eq_true rfl) dX8_bestPays_2 ⟨Nat.zero_le _, Nat.zero_le _⟩) hP hD hS hA [0, 1] [2, 3, 4, 5, 6, 7, 8, 9, 10, 11, 12, 13, 14, 15, 16, 17, 18] rfl rfl (by decide) (by decide) [17, 18, 0, 1, 2, 3, 4, 5, 6, 7, 8, 9, 10, 11, 12, 13, 14, 15, 16] (by decide) rfl rfl (fun H locs hP hD hS => ?_)
  refine lv_istore_n (lv' := [(2, .int r2), (0, .ref aN), (1, .int x1)]) hx hb dX8_bestPays_5 rfl hl (by decide) rfl (fun ls hl => ?_)
  refine lv_iload_n hx hb dX8_bestPays_6 rfl (lv_at hl 0 rfl) ?_
  refine lv_if_eq (tgt := 16) hx hb dX8_bestPays_7 (by decide) (fun c7 => ?_) (fun c7 => ?_)
  · have hok := k_pos c7 hok
    refine lv_aload_n hx hb dX8_bestPays_16 rfl (lv_at hl 1 rfl) ?_
    refine va_get (D := D) (ci := 7) (v := .ref (qN 3)) (C := RX8) (T := TX8) (N := 9) hx hb ht0 niX8 hown hK hP 0 rfl rfl 3 (by decide) (ht0 _ wd616) (fun _ h9 => h9) rfl dX8_bestPays_17 ?_
    refine lv_aload_n hx hb dX8_bestPays_20 rfl (lv_at hl 1 rfl) ?_
    refine va_get (D := D) (ci := 7) (v := .ref aH) (C := RX8) (T := TX8) (N := 9) hx hb ht0 niX8 hown hK hP 0 rfl rfl 5 (by decide) (ht0 _ wd522) (fun _ h9 => h9) rfl dX8_bestPays_21 ?_
    refine lv_aload_n hx hb dX8_bestPays_24 rfl (lv_at hl 1 rfl) ?_
    refine va_get (D := D) (ci := 7) (v := .ref (qN 1)) (C := RX8) (T := TX8) (N := 9) hx hb ht0 niX8 hown hK hP 0 rfl rfl 1 (by decide) (ht0 _ wd527) (fun _ h9 => h9) rfl dX8_bestPays_25 ?_
    refine lv_iload_n hx hb dX8_bestPays_28 rfl (lv_at hl 2 rfl) ?_
    obtain ⟨⟨r29, vW_29, vW_who_29, vW_cells_29, vW_inFront_29, aH0_29⟩, hc29, hok⟩ := k_bind hok
    try dsimp only at hok
    refine kCi (wc := (wX3_bestFor cy (qN 3) aH (qN 1) qH qU qD qG qW aH0 aH0 vH vU vU_nights vD vD_now vU_things vU_cells vU_worths vH_kinds vG vW vW_who vW_cells vH_sorts vH_next vW_inFront vH_sizes vH_width)) (wc2 := (wX3_bestFor cy (qN 3) aH (qN 1) qH qU qD qG qW aH0 aH0_29 vH vU vU_nights vD vD_now vU_things vU_cells vU_worths vH_kinds vG vW_29 vW_who_29 vW_cells_29 vH_sorts vH_next vW_inFront_29 vH_sizes vH_width)) (wr := [(aN, oX8 vN qN aH)]) (ws2 := (wX8_bestPays cy aN qN aH qH qU qD qG qW aH0 aH aH0_29 vN vH vU vU_nights vD vD_now vU_things vU_cells vU_worths vH_kinds vG vW_29 vW_who_29 vW_cells_29 vH_sorts vH_next vW_inFront_29 vH_sizes vH_width)) (kRunV (As := [.ref aH, .ref (qN 1), .int x1]) (rest := []) ⟨hx, hb, hml, hown, ht0⟩ (kX3_bestFor l D cy _ (qN 3) aH (qN 1) qH qU qD qG qW aH0 vH vU vU_nights vD vD_now vU_things vU_cells vU_worths vH_kinds vG vW vW_who vW_cells vH_sorts vH_next vW_inFront vH_sizes vH_width x1 r29 vW_29 vW_who_29 vW_cells_29 vW_inFront_29 aH0_29 hc29 _ rfl) (cwV 3 ht0 (gV wd639 wd640 wd641 wd178 wd642) rfl rfl rfl (by decide +kernel) ⟨Nat.le_of_ble_eq_true rfl, Nat.le_of_ble_eq_true rfl⟩) hK hN hP hD [1, 2, 3, 4, 5, 6, 7, 8, 9, 10, 11, 12, 13, 14, 15, 16, 17, 18] rfl (by decide) 10 2 rfl rfl rfl hl.1 rfl (Nat.le_of_ble_eq_true rfl) dX8_bestPays_29 ⟨Nat.zero_le _, Nat.zero_le _⟩) hP hD hS hA [1, 2, 3, 4, 5, 6, 7, 8, 9, 10, 11, 12, 13, 14, 15, 16, 17, 18] [0] rfl rfl (by decide) (by decide) [0, 1, 2, 3, 4, 5, 6, 7, 8, 9, 10, 11, 12, 13, 14, 15, 16, 17, 18] (by decide) rfl rfl (fun H locs hP hD hS => ?_)
    refine lv_istore_n (lv' := [(3, .int r29), (2, .int r2), (0, .ref aN), (1, .int x1)]) hx hb dX8_bestPays_32 rfl hl (by decide) rfl (fun ls hl => ?_)
    refine lv_aload_n hx hb dX8_bestPays_33 rfl (lv_at hl 2 rfl) ?_
    refine lv_aload_n hx hb dX8_bestPays_34 rfl (lv_at hl 2 rfl) ?_
    refine va_get (D := D) (ci := 7) (v := .ref aH) (C := RX8) (T := TX8) (N := 9) hx hb ht0 niX8 hown hK hP 0 rfl rfl 5 (by decide) (ht0 _ wd522) (fun _ h9 => h9) rfl dX8_bestPays_35 ?_
    refine va_get (D := D) (ci := 3) (v := .ref (qH 7)) (C := RX4) (T := TX4) (N := 20) hx hb ht0 niX4 hown hK hP 1 rfl rfl 7 (by decide) (ht0 _ wd633) (fun _ h9 => h9) rfl dX8_bestPays_38 ?_
    refine lv_aload_n hx hb dX8_bestPays_41 rfl (lv_at hl 2 rfl) ?_
    refine va_get (D := D) (ci := 7) (v := .ref (qN 3)) (C := RX8) (T := TX8) (N := 9) hx hb ht0 niX8 hown hK hP 0 rfl rfl 3 (by decide) (ht0 _ wd616) (fun _ h9 => h9) rfl dX8_bestPays_42 ?_
    refine lv_aload_n hx hb dX8_bestPays_45 rfl (lv_at hl 2 rfl) ?_
    refine va_get (D := D) (ci := 7) (v := .ref aH) (C := RX8) (T := TX8) (N := 9) hx hb ht0 niX8 hown hK hP 0 rfl rfl 5 (by decide) (ht0 _ wd522) (fun _ h9 => h9) rfl dX8_bestPays_46 ?_
    refine lv_aload_n hx hb dX8_bestPays_49 rfl (lv_at hl 2 rfl) ?_
    refine va_get (D := D) (ci := 7) (v := .ref (qN 1)) (C := RX8) (T := TX8) (N := 9) hx hb ht0 niX8 hown hK hP 0 rfl rfl 1 (by decide) (ht0 _ wd527) (fun _ h9 => h9) rfl dX8_bestPays_50 ?_
    refine lv_iload_n hx hb dX8_bestPays_53 rfl (lv_at hl 0 rfl) ?_
    refine lv_iload_n hx hb dX8_bestPays_54 rfl (lv_at hl 3 rfl) ?_
    obtain ⟨⟨r55, vW_55, vW_who_55, vW_cells_55, vW_inFront_55⟩, hc55, hok⟩ := k_bind hok
    try dsimp only at hok
    refine kCi (wc := (wX3_paidWithin cy (qN 3) aH (qN 1) qH qU qD qG qW aH0_29 aH0_29 vH vU vU_nights vD vD_now vU_things vU_cells vG vW_29 vW_who_29 vH_kinds vW_cells_29 vH_sorts vH_next vW_inFront_29 vH_sizes vH_width)) (wc2 := (wX3_paidWithin cy (qN 3) aH (qN 1) qH qU qD qG qW aH0_29 aH vH vU vU_nights vD vD_now vU_things vU_cells vG vW_55 vW_who_55 vH_kinds vW_cells_55 vH_sorts vH_next vW_inFront_55 vH_sizes vH_width)) (wr := [(aN, oX8 vN qN aH), (qU 4, rI cy 6 vU_worths)]) (ws2 := (wX8_bestPays cy aN qN aH qH qU qD qG qW aH0 aH aH vN vH vU vU_nights vD vD_now vU_things vU_cells vU_worths vH_kinds vG vW_55 vW_who_55 vW_cells_55 vH_sorts vH_next vW_inFront_55 vH_sizes vH_width)) (kRunV (As := [.ref aH, .ref (qN 1), .int r29, .int x1]) (rest := [.ref (qH 7), .ref aN]) ⟨hx, hb, hml, hown, ht0⟩ (kX3_paidWithin l D cy _ (qN 3) aH (qN 1) qH qU qD qG qW aH0_29 vH vU vU_nights vD vD_now vU_things vU_cells vG vW_29 vW_who_29 vH_kinds vW_cells_29 vH_sorts vH_next vW_inFront_29 vH_sizes vH_width r29 x1 r55 vW_55 vW_who_55 vW_cells_55 vW_inFront_55 hc55 _ rfl) (cwV 4 ht0 (gV wd634 wd635 wd636 wd178 wd637) rfl rfl rfl (by decide +kernel) ⟨Nat.le_of_ble_eq_true rfl, Nat.le_of_ble_eq_true rfl⟩) hK hN hP hD [1, 2, 3, 4, 5, 6, 7, 10, 11, 12, 9, 13, 14, 15, 16, 17, 18] rfl (by decide) 10 2 rfl rfl rfl hl.1 rfl (Nat.le_of_ble_eq_true rfl) dX8_bestPays_55 ⟨Nat.zero_le _, Nat.zero_le _⟩) hP hD hS hA [1, 2, 3, 4, 5, 6, 7, 10, 11, 12, 9, 13, 14, 15, 16, 17, 18] [0, 8] rfl rfl (by decide) (by decide) [0, 2, 3, 4, 5, 6, 7, 8, 1, 12, 9, 10, 11, 13, 14, 15, 16, 17, 18] (by decide) rfl rfl (fun H locs hP hD hS => ?_)
    obtain ⟨r58, hc58, hok⟩ := k_bind hok
    refine kCi (wc := (wX7_worthOf cy (qH 7) qU vU vU_worths)) (wc2 := (wX7_worthOf cy (qH 7) qU vU vU_worths)) (wr := [(aN, oX8 vN qN aH), (aH, oX4 vH qH), (qU 3, rI cy 6 vU_nights), (qN 1, oX1 vD qD), (qD 0, rI cy 9 vD_now), (qU 1, rI cy 6 vU_things), (qU 2, rI cy 6 vU_cells), (qH 14, rI cy 7 vH_kinds), (qN 3, oX3 vG qG), (qG 0, oX6 vW_55 qW aH), (qW 1, rI cy 36 vW_who_55), (qW 0, rI cy 7 vW_cells_55), (qH 8, rI cy 4 vH_sorts), (qH 10, rI cy 36 vH_next), (qW 2, rI cy 7 vW_inFront_55), (qH 15, rI cy 7 vH_sizes), (qH 11, rI cy 36 vH_width)]) (ws2 := (wX8_bestPays cy aN qN aH qH qU qD qG qW aH0 aH aH vN vH vU vU_nights vD vD_now vU_things vU_cells vU_worths vH_kinds vG vW_55 vW_who_55 vW_cells_55 vH_sorts vH_next vW_inFront_55 vH_sizes vH_width)) (kRunV (As := [.int r55]) (rest := [.ref aN]) ⟨hx, hb, hml, hown, ht0⟩ (kX7_worthOf l D cy _ (qH 7) qU vU vU_worths r55 r58 hc58 _ rfl) (cwV 1 ht0 (gV wd638 wd229 wd230 wd218 wd231) rfl rfl rfl (by decide +kernel) ⟨Nat.le_of_ble_eq_true rfl, Nat.le_of_ble_eq_true rfl⟩) hK hN hP hD [2, 8] rfl (by decide) 2 6 rfl rfl rfl hl.1 rfl (Nat.le_of_ble_eq_true rfl) dX8_bestPays_58 ⟨Nat.zero_le _, Nat.zero_le _⟩) hP hD hS hA [2, 8] [0, 1, 3, 4, 5, 6, 7, 9, 10, 11, 12, 13, 14, 15, 16, 17, 18] rfl rfl (by decide) (by decide) [0, 1, 17, 2, 3, 4, 5, 6, 18, 7, 8, 9, 10, 11, 12, 13, 14, 15, 16] (by decide) rfl rfl (fun H locs hP hD hS => ?_)
    obtain ⟨⟨r61, vN_61⟩, hc61, hok⟩ := k_bind hok
    try dsimp only at hok
    refine kCi (wc := (wX8_answer cy aN qN aH aH vN)) (wc2 := (wX8_answer cy aN qN aH aH vN_61)) (wr := [(aH, oX4 vH qH), (qH 7, oX7 vU qU), (qU 3, rI cy 6 vU_nights), (qN 1, oX1 vD qD), (qD 0, rI cy 9 vD_now), (qU 1, rI cy 6 vU_things), (qU 2, rI cy 6 vU_cells), (qU 4, rI cy 6 vU_worths), (qH 14, rI cy 7 vH_kinds), (qN 3, oX3 vG qG), (qG 0, oX6 vW_55 qW aH), (qW 1, rI cy 36 vW_who_55), (qW 0, rI cy 7 vW_cells_55), (qH 8, rI cy 4 vH_sorts), (qH 10, rI cy 36 vH_next), (qW 2, rI cy 7 vW_inFront_55), (qH 15, rI cy 7 vH_sizes), (qH 11, rI cy 36 vH_width)]) (ws2 := (wX8_bestPays cy aN qN aH qH qU qD qG qW aH0 aH aH vN_61 vH vU vU_nights vD vD_now vU_things vU_cells vU_worths vH_kinds vG vW_55 vW_who_55 vW_cells_55 vH_sorts vH_next vW_inFront_55 vH_sizes vH_width)) (kRunV (As := [.int r58]) (rest := []) ⟨hx, hb, hml, hown, ht0⟩ (kX8_answer l D cy _ aN qN aH vN r58 r61 vN_61 hc61 _ rfl) (cwV 1 ht0 (gV wd538 wd539 wd540 wd57 wd541) rfl rfl rfl (by decide +kernel) ⟨Nat.le_of_ble_eq_true rfl, Nat.le_of_ble_eq_true rfl⟩) hK hN hP hD [0] rfl (by decide) 0 7 rfl rfl rfl hl.1 rfl (Nat.le_of_ble_eq_true rfl) dX8_bestPays_61 ⟨Nat.zero_le _, Nat.zero_le _⟩) hP hD hS hA [0] [1, 2, 3, 4, 5, 6, 7, 8, 9, 10, 11, 12, 13, 14, 15, 16, 17, 18] rfl rfl (by decide) (by decide) [18, 0, 1, 2, 3, 4, 5, 6, 7, 8, 9, 10, 11, 12, 13, 14, 15, 16, 17] (by decide) rfl rfl (fun H locs hP hD hS => ?_)
    cases hok
    exact W.iret hx hb hr (fun t ht hW => ⟨⟨_, (), rfl, rfl, by rw [ht]; exact hP, va_K.moved hW.alike hK, hD⟩, hS.F ht⟩) hS.2.2 dX8_bestPays_64
  · have hok := k_neg c7 hok
    refine lv_aload_n hx hb dX8_bestPays_10 rfl (lv_at hl 1 rfl) ?_
    refine lv_iload_n hx hb dX8_bestPays_11 rfl (lv_at hl 0 rfl) ?_
    obtain ⟨⟨r12, vN_12⟩, hc12, hok⟩ := k_bind hok
    try dsimp only at hok
    refine kCi (wc := (wX8_refuse cy aN qN aH aH vN)) (wc2 := (wX8_refuse cy aN qN aH aH vN_12)) (wr := [(aH, oX4 vH qH), (qH 7, oX7 vU qU), (qU 3, rI cy 6 vU_nights), (qN 1, oX1 vD qD), (qD 0, rI cy 9 vD_now), (qU 1, rI cy 6 vU_things), (qU 2, rI cy 6 vU_cells), (qU 4, rI cy 6 vU_worths), (qH 14, rI cy 7 vH_kinds), (qN 3, oX3 vG qG), (qG 0, oX6 vW qW aH0), (qW 1, rI cy 36 vW_who), (qW 0, rI cy 7 vW_cells), (qH 8, rI cy 4 vH_sorts), (qH 10, rI cy 36 vH_next), (qW 2, rI cy 7 vW_inFront), (qH 15, rI cy 7 vH_sizes), (qH 11, rI cy 36 vH_width)]) (ws2 := (wX8_bestPays cy aN qN aH qH qU qD qG qW aH0 aH aH0 vN_12 vH vU vU_nights vD vD_now vU_things vU_cells vU_worths vH_kinds vG vW vW_who vW_cells vH_sorts vH_next vW_inFront vH_sizes vH_width)) (kRunV (As := [.int r2]) (rest := []) ⟨hx, hb, hml, hown, ht0⟩ (kX8_refuse l D cy _ aN qN aH vN r2 r12 vN_12 hc12 _ rfl) (cwV 1 ht0 (gV wd504 wd505 wd506 wd57 wd507) rfl rfl rfl (by decide +kernel) ⟨Nat.le_of_ble_eq_true rfl, Nat.le_of_ble_eq_true rfl⟩) hK hN hP hD [0] rfl (by decide) 0 7 rfl rfl rfl hl.1 rfl (Nat.le_of_ble_eq_true rfl) dX8_bestPays_12 ⟨Nat.zero_le _, Nat.zero_le _⟩) hP hD hS hA [0] [1, 2, 3, 4, 5, 6, 7, 8, 9, 10, 11, 12, 13, 14, 15, 16, 17, 18] rfl rfl (by decide) (by decide) [18, 0, 1, 2, 3, 4, 5, 6, 7, 8, 9, 10, 11, 12, 13, 14, 15, 16, 17] (by decide) rfl rfl (fun H locs hP hD hS => ?_)
    cases hok
    exact W.iret hx hb hr (fun t ht hW => ⟨⟨_, (), rfl, rfl, by rw [ht]; exact hP, va_K.moved hW.alike hK, hD⟩, hS.F ht⟩) hS.2.2 dX8_bestPays_15
def wsX8_kept : List Cond := .code yX8_kept cX8_kept 1 (some .int) :: W0
abbrev wX8_kept (cy : Nat → ClassId) (aN : Nat) (qN : Nat → Nat) (aH : Nat) (qH : Nat → Nat) (qU : Nat → Nat) (qD : Nat → Nat) (qG : Nat → Nat) (qW : Nat → Nat) (aH0 : Nat) (fvN_5 : Nat) (fvW_4 : Nat) (vN : Nat → Int32) (vH : Nat → Int32) (vU : Nat → Int32) (vU_nights : Nat → Int32) (vD : Nat → Int32) (vD_now : Nat → Int32) (vU_things : Nat → Int32) (vU_cells : Nat → Int32) (vG : Nat → Int32) (vW : Nat → Int32) (vW_who : Nat → Int32) (vH_kinds : Nat → Int32) (vW_cells : Nat → Int32) (vH_sorts : Nat → Int32) (vH_next : Nat → Int32) (vW_inFront : Nat → Int32) (vH_sizes : Nat → Int32) (vH_width : Nat → Int32) : va_W := [(aN, oX8 vN qN fvN_5), (aH, oX4 vH qH), (qH 7, oX7 vU qU), (qU 3, rI cy 6 vU_nights), (qN 1, oX1 vD qD), (qD 0, rI cy 9 vD_now), (qU 1, rI cy 6 vU_things), (qU 2, rI cy 6 vU_cells), (qN 3, oX3 vG qG), (qG 0, oX6 vW qW fvW_4), (qW 1, rI cy 36 vW_who), (qH 14, rI cy 7 vH_kinds), (qW 0, rI cy 7 vW_cells), (qH 8, rI cy 4 vH_sorts), (qH 10, rI cy 36 vH_next), (qW 2, rI cy 7 vW_inFront), (qH 15, rI cy 7 vH_sizes), (qH 11, rI cy 36 vH_width)]
set_option maxHeartbeats 4000000 in
set_option maxRecDepth 100000 in
theorem kX8_kept (l : Launch) (D : va_G) (cy : Nat → ClassId) (sz : Nat) (aN : Nat) (qN : Nat → Nat) (aH : Nat) (qH : Nat → Nat) (qU : Nat → Nat) (qD : Nat → Nat) (qG : Nat → Nat) (qW : Nat → Nat) (aH0 : Nat) (vN : Nat → Int32) (vH : Nat → Int32) (vU : Nat → Int32) (vU_nights : Nat → Int32) (vD : Nat → Int32) (vD_now : Nat → Int32) (vU_things : Nat → Int32) (vU_cells : Nat → Int32) (vG : Nat → Int32) (vW : Nat → Int32) (vW_who : Nat → Int32) (vH_kinds : Nat → Int32) (vW_cells : Nat → Int32) (vH_sorts : Nat → Int32) (vH_next : Nat → Int32) (vW_inFront : Nat → Int32) (vH_sizes : Nat → Int32) (vH_width : Nat → Int32) (zr : Int32) (z_vN : Nat → Int32) (z_vW : Nat → Int32) (z_vW_who : Nat → Int32) (z_vW_cells : Nat → Int32) (z_vW_inFront : Nat → Int32) (z_aH0 : Nat) (hok : fX8_kept aH aH0 vN vH vU vU_nights vD vD_now vU_things vU_cells vG vW vW_who vH_kinds vW_cells vH_sorts vH_next vW_inFront vH_sizes vH_width = some (zr, z_vN, z_vW, z_vW_who, z_vW_cells, z_vW_inFront, z_aH0)) (A : Nat → Prop) (hAe : va_A (wX8_kept cy aN qN aH qH qU qD qG qW aH0 aH aH0 vN vH vU vU_nights vD vD_now vU_things vU_cells vG vW vW_who vH_kinds vW_cells vH_sorts vH_next vW_inFront vH_sizes vH_width) sz = A) : Met l yX8_kept wsX8_kept ({ frames := 5, cells := 0, slots := 0, locals := 124 } : Room) (kPre D cy [.ref aN] (wX8_kept cy aN qN aH qH qU qD qG qW aH0 aH aH0 vN vH vU vU_nights vD vD_now vU_things vU_cells vG vW vW_who vH_kinds vW_cells vH_sorts vH_next vW_inFront vH_sizes vH_width) sz) (kQi D cy zr A (wX8_kept cy aN qN aH qH qU qD qG qW aH0 aH z_aH0 z_vN vH vU vU_nights vD vD_now vU_things vU_cells vG z_vW z_vW_who vH_kinds z_vW_cells vH_sorts vH_next z_vW_inFront vH_sizes vH_width)) 0 0 A := by
  refine Met.ofW (cc := cX8_kept) (maxL := 1) (ret := (some .int)) (by decide) rfl ?_
  intro p e s m args below meth c s₁ B hml hv
  obtain ⟨rfl, hsz, hP, hK, hD0, hN⟩ := hv
  have hx := B.exec
  have hb := B.bytes
  have hr := B.returns
  have ht0 : ∀ w ∈ W0, w.before _ s = true := fun w h => atoms_spec (ws := wsX8_kept) B.pre w (List.mem_cons_of_mem _ h)
  have hown : s.vm.findClass RX8 = some m.cls := findClass_of_methodNamed B.named
  have hlocks := B.notSynchronized
  subst hsz
  have hD : va_D A (wX8_kept cy aN qN aH qH qU qD qG qW aH0 aH aH0 vN vH vU vU_nights vD vD_now vU_things vU_cells vG vW vW_who vH_kinds vW_cells vH_sorts vH_next vW_inFront vH_sizes vH_width) := by rw [← hAe]; exact hD0.self
  have hA : ∀ q : Nat, s.heap.size ≤ q → A q := fun q h => by rw [← hAe]; exact Or.inr h
  have hS : va_S A s.heap s.heap [] := va_S.rf
  have hl := lv_entry ([.ref aN]) (n := 1) (Nat.le_of_ble_eq_true rfl)
  rw [lg_entry_eq]
  generalize (lg_sl ([.ref aN]) ++ List.replicate (1 - (lg_sl ([.ref aN])).length) Slot.unset).toArray = ls at hl ⊢
  have hl : lv_has ls 1 [(0, .ref aN)] := hl
  unfold fX8_kept at hok
  obtain ⟨H, hH⟩ : ∃ H, H = s.heap := ⟨_, rfl⟩
  obtain ⟨locs, hlc⟩ : ∃ x : List Loc, x = [] := ⟨_, rfl⟩
  have hP : va_P D vwCl (wX8_kept cy aN qN aH qH qU qD qG qW aH0 aH aH0 vN vH vU vU_nights vD vD_now vU_things vU_cells vG vW vW_who vH_kinds vW_cells vH_sorts vH_next vW_inFront vH_sizes vH_width) H := by rw [hH]; exact hP
  have hS : va_S A s.heap H locs := by rw [hH, hlc]; exact hS
  rw [show W p l e _ s m _ below meth c s.heap [] = W p l e _ s m _ below meth c H locs from by rw [hH, hlc]]
  refine lv_aload_n hx hb dX8_kept_0 rfl (lv_at hl 0 rfl) ?_
  refine va_get (D := D) (ci := 7) (v := .ref aH) (C := RX8) (T := TX8) (N := 9) hx hb ht0 niX8 hown hK hP 0 rfl rfl 5 (by decide) (ht0 _ wd522) (fun _ h9 => h9) rfl dX8_kept_1 ?_
  obtain ⟨r4, hc4, hok⟩ := k_bind hok
  refine kCi (wc := (wX4_stands cy aH qH vH)) (wc2 := (wX4_stands cy aH qH vH)) (wr := [(aN, oX8 vN qN aH), (qH 7, oX7 vU qU), (qU 3, rI cy 6 vU_nights), (qN 1, oX1 vD qD), (qD 0, rI cy 9 vD_now), (qU 1, rI cy 6 vU_things), (qU 2, rI cy 6 vU_cells), (qN 3, oX3 vG qG), (qG 0, oX6 vW qW aH0), (qW 1, rI cy 36 vW_who), (qH 14, rI cy 7 vH_kinds), (qW 0, rI cy 7 vW_cells), (qH 8, rI cy 4 vH_sorts), (qH 10, rI cy 36 vH_next), (qW 2, rI cy 7 vW_inFront), (qH 15, rI cy 7 vH_sizes), (qH 11, rI cy 36 vH_width)]) (ws2 := (wX8_kept cy aN qN aH qH qU qD qG qW aH0 aH aH0 vN vH vU vU_nights vD vD_now vU_things vU_cells vG vW vW_who vH_kinds vW_cells vH_sorts vH_next vW_inFront vH_sizes vH_width)) (kRunV (As := []) (rest := []) ⟨hx, hb, hml, hown, ht0⟩ (kX4_stands l D cy _ aH qH vH r4 hc4 _ rfl) (cwV 0 ht0 (gV wd577 wd462 wd463 wd9 wd464) rfl rfl rfl (by decide +kernel) ⟨Nat.le_of_ble_eq_true rfl, Nat.le_of_ble_eq_true rfl⟩) hK hN hP hD [1] rfl (by decide) 1 3 rfl rfl rfl hl.1 rfl (Nat.le_of_ble_eq_true rfl) dX8_kept_4 ⟨Nat.zero_le _, Nat.zero_le _⟩) hP hD hS hA [1] [0, 2, 3, 4, 5, 6, 7, 8, 9, 10, 11, 12, 13, 14, 15, 16, 17] rfl rfl (by decide) (by decide) [0, 17, 1, 2, 3, 4, 5, 6, 7, 8, 9, 10, 11, 12, 13, 14, 15, 16] (by decide) rfl rfl (fun H locs hP hD hS => ?_)
  refine lv_if_ne (tgt := 16) hx hb dX8_kept_7 (by decide) (fun c7 => ?_) (fun c7 => ?_)
  · have hok := k_neg c7 hok
    refine lv_aload_n hx hb dX8_kept_16 rfl (lv_at hl 0 rfl) ?_
    refine lv_aload_n hx hb dX8_kept_17 rfl (lv_at hl 0 rfl) ?_
    refine va_get (D := D) (ci := 7) (v := .ref (qN 3)) (C := RX8) (T := TX8) (N := 9) hx hb ht0 niX8 hown hK hP 0 rfl rfl 3 (by decide) (ht0 _ wd616) (fun _ h9 => h9) rfl dX8_kept_18 ?_
    refine lv_aload_n hx hb dX8_kept_21 rfl (lv_at hl 0 rfl) ?_
    refine va_get (D := D) (ci := 7) (v := .ref aH) (C := RX8) (T := TX8) (N := 9) hx hb ht0 niX8 hown hK hP 0 rfl rfl 5 (by decide) (ht0 _ wd522) (fun _ h9 => h9) rfl dX8_kept_22 ?_
    refine lv_aload_n hx hb dX8_kept_25 rfl (lv_at hl 0 rfl) ?_
    refine va_get (D := D) (ci := 7) (v := .ref (qN 1)) (C := RX8) (T := TX8) (N := 9) hx hb ht0 niX8 hown hK hP 0 rfl rfl 1 (by decide) (ht0 _ wd527) (fun _ h9 => h9) rfl dX8_kept_26 ?_
    refine lv_iconst (v := 0) hx hb dX8_kept_29 (by decide) ?_
    refine lv_bipush (v := 60) hx hb dX8_kept_30 (by decide) ?_
    obtain ⟨⟨r32, vW_32, vW_who_32, vW_cells_32, vW_inFront_32⟩, hc32, hok⟩ := k_bind hok
    try dsimp only at hok
    refine kCi (wc := (wX3_paidWithin cy (qN 3) aH (qN 1) qH qU qD qG qW aH0 aH0 vH vU vU_nights vD vD_now vU_things vU_cells vG vW vW_who vH_kinds vW_cells vH_sorts vH_next vW_inFront vH_sizes vH_width)) (wc2 := (wX3_paidWithin cy (qN 3) aH (qN 1) qH qU qD qG qW aH0 aH vH vU vU_nights vD vD_now vU_things vU_cells vG vW_32 vW_who_32 vH_kinds vW_cells_32 vH_sorts vH_next vW_inFront_32 vH_sizes vH_width)) (wr := [(aN, oX8 vN qN aH)]) (ws2 := (wX8_kept cy aN qN aH qH qU qD qG qW aH0 aH aH vN vH vU vU_nights vD vD_now vU_things vU_cells vG vW_32 vW_who_32 vH_kinds vW_cells_32 vH_sorts vH_next vW_inFront_32 vH_sizes vH_width)) (kRunV (As := [.ref aH, .ref (qN 1), .int 0, .int 60]) (rest := [.ref aN]) ⟨hx, hb, hml, hown, ht0⟩ (kX3_paidWithin l D cy _ (qN 3) aH (qN 1) qH qU qD qG qW aH0 vH vU vU_nights vD vD_now vU_things vU_cells vG vW vW_who vH_kinds vW_cells vH_sorts vH_next vW_inFront vH_sizes vH_width (0 : Int32) (60 : Int32) r32 vW_32 vW_who_32 vW_cells_32 vW_inFront_32 hc32 _ rfl) (cwV 4 ht0 (gV wd634 wd635 wd636 wd178 wd637) rfl rfl rfl (by decide +kernel) ⟨Nat.le_of_ble_eq_true rfl, Nat.le_of_ble_eq_true rfl⟩) hK hN hP hD [1, 2, 3, 4, 5, 6, 7, 8, 9, 10, 11, 12, 13, 14, 15, 16, 17] rfl (by decide) 8 2 rfl rfl rfl hl.1 rfl (Nat.le_of_ble_eq_true rfl) dX8_kept_32 ⟨Nat.zero_le _, Nat.zero_le _⟩) hP hD hS hA [1, 2, 3, 4, 5, 6, 7, 8, 9, 10, 11, 12, 13, 14, 15, 16, 17] [0] rfl rfl (by decide) (by decide) [0, 1, 2, 3, 4, 5, 6, 7, 8, 9, 10, 11, 12, 13, 14, 15, 16, 17] (by decide) rfl rfl (fun H locs hP hD hS => ?_)
    obtain ⟨⟨r35, vN_35⟩, hc35, hok⟩ := k_bind hok
    try dsimp only at hok
    refine kCi (wc := (wX8_answer cy aN qN aH aH vN)) (wc2 := (wX8_answer cy aN qN aH aH vN_35)) (wr := [(aH, oX4 vH qH), (qH 7, oX7 vU qU), (qU 3, rI cy 6 vU_nights), (qN 1, oX1 vD qD), (qD 0, rI cy 9 vD_now), (qU 1, rI cy 6 vU_things), (qU 2, rI cy 6 vU_cells), (qN 3, oX3 vG qG), (qG 0, oX6 vW_32 qW aH), (qW 1, rI cy 36 vW_who_32), (qH 14, rI cy 7 vH_kinds), (qW 0, rI cy 7 vW_cells_32), (qH 8, rI cy 4 vH_sorts), (qH 10, rI cy 36 vH_next), (qW 2, rI cy 7 vW_inFront_32), (qH 15, rI cy 7 vH_sizes), (qH 11, rI cy 36 vH_width)]) (ws2 := (wX8_kept cy aN qN aH qH qU qD qG qW aH0 aH aH vN_35 vH vU vU_nights vD vD_now vU_things vU_cells vG vW_32 vW_who_32 vH_kinds vW_cells_32 vH_sorts vH_next vW_inFront_32 vH_sizes vH_width)) (kRunV (As := [.int r32]) (rest := []) ⟨hx, hb, hml, hown, ht0⟩ (kX8_answer l D cy _ aN qN aH vN r32 r35 vN_35 hc35 _ rfl) (cwV 1 ht0 (gV wd538 wd539 wd540 wd57 wd541) rfl rfl rfl (by decide +kernel) ⟨Nat.le_of_ble_eq_true rfl, Nat.le_of_ble_eq_true rfl⟩) hK hN hP hD [0] rfl (by decide) 0 7 rfl rfl rfl hl.1 rfl (Nat.le_of_ble_eq_true rfl) dX8_kept_35 ⟨Nat.zero_le _, Nat.zero_le _⟩) hP hD hS hA [0] [1, 2, 3, 4, 5, 6, 7, 8, 9, 10, 11, 12, 13, 14, 15, 16, 17] rfl rfl (by decide) (by decide) [17, 0, 1, 2, 3, 4, 5, 6, 7, 8, 9, 10, 11, 12, 13, 14, 15, 16] (by decide) rfl rfl (fun H locs hP hD hS => ?_)
    cases hok
    exact W.iret hx hb hr (fun t ht hW => ⟨⟨_, (), rfl, rfl, by rw [ht]; exact hP, va_K.moved hW.alike hK, hD⟩, hS.F ht⟩) hS.2.2 dX8_kept_38
  · have hok := k_pos c7 hok
    refine lv_aload_n hx hb dX8_kept_10 rfl (lv_at hl 0 rfl) ?_
    refine lv_iconst (v := 1) hx hb dX8_kept_11 (by decide) ?_
    obtain ⟨⟨r12, vN_12⟩, hc12, hok⟩ := k_bind hok
    try dsimp only at hok
    refine kCi (wc := (wX8_refuse cy aN qN aH aH vN)) (wc2 := (wX8_refuse cy aN qN aH aH vN_12)) (wr := [(aH, oX4 vH qH), (qH 7, oX7 vU qU), (qU 3, rI cy 6 vU_nights), (qN 1, oX1 vD qD), (qD 0, rI cy 9 vD_now), (qU 1, rI cy 6 vU_things), (qU 2, rI cy 6 vU_cells), (qN 3, oX3 vG qG), (qG 0, oX6 vW qW aH0), (qW 1, rI cy 36 vW_who), (qH 14, rI cy 7 vH_kinds), (qW 0, rI cy 7 vW_cells), (qH 8, rI cy 4 vH_sorts), (qH 10, rI cy 36 vH_next), (qW 2, rI cy 7 vW_inFront), (qH 15, rI cy 7 vH_sizes), (qH 11, rI cy 36 vH_width)]) (ws2 := (wX8_kept cy aN qN aH qH qU qD qG qW aH0 aH aH0 vN_12 vH vU vU_nights vD vD_now vU_things vU_cells vG vW vW_who vH_kinds vW_cells vH_sorts vH_next vW_inFront vH_sizes vH_width)) (kRunV (As := [.int 1]) (rest := []) ⟨hx, hb, hml, hown, ht0⟩ (kX8_refuse l D cy _ aN qN aH vN (1 : Int32) r12 vN_12 hc12 _ rfl) (cwV 1 ht0 (gV wd504 wd505 wd506 wd57 wd507) rfl rfl rfl (by decide +kernel) ⟨Nat.le_of_ble_eq_true rfl, Nat.le_of_ble_eq_true rfl⟩) hK hN hP hD [0] rfl (by decide) 0 7 rfl rfl rfl hl.1 rfl (Nat.le_of_ble_eq_true rfl) dX8_kept_12 ⟨Nat.zero_le _, Nat.zero_le _⟩) hP hD hS hA [0] [1, 2, 3, 4, 5, 6, 7, 8, 9, 10, 11, 12, 13, 14, 15, 16, 17] rfl rfl (by decide) (by decide) [17, 0, 1, 2, 3, 4, 5, 6, 7, 8, 9, 10, 11, 12, 13, 14, 15, 16] (by decide) rfl rfl (fun H locs hP hD hS => ?_)
    cases hok
    exact W.iret hx hb hr (fun t ht hW => ⟨⟨_, (), rfl, rfl, by rw [ht]; exact hP, va_K.moved hW.alike hK, hD⟩, hS.F ht⟩) hS.2.2 dX8_kept_15
def wsX8_rules : List Cond := .code yX8_rules cX8_rules 1 (some .int) :: W0
abbrev wX8_rules (cy : Nat → ClassId) (aN : Nat) (qN : Nat → Nat) (aH : Nat) (qH : Nat → Nat) (qB : Nat → Nat) (fvN_5 : Nat) (vN : Nat → Int32) (vH : Nat → Int32) (vB : Nat → Int32) : va_W := [(aN, oX8 vN qN fvN_5), (aH, oX4 vH qH), (qN 4, oX0 vB qB)]
set_option maxHeartbeats 4000000 in
set_option maxRecDepth 100000 in
theorem kX8_rules (l : Launch) (D : va_G) (cy : Nat → ClassId) (sz : Nat) (aN : Nat) (qN : Nat → Nat) (aH : Nat) (qH : Nat → Nat) (qB : Nat → Nat) (vN : Nat → Int32) (vH : Nat → Int32) (vB : Nat → Int32) (zr : Int32) (z_vN : Nat → Int32) (hok : fX8_rules vN vH vB = some (zr, z_vN)) (A : Nat → Prop) (hAe : va_A (wX8_rules cy aN qN aH qH qB aH vN vH vB) sz = A) : Met l yX8_rules wsX8_rules ({ frames := 1, cells := 0, slots := 0, locals := 21 } : Room) (kPre D cy [.ref aN] (wX8_rules cy aN qN aH qH qB aH vN vH vB) sz) (kQi D cy zr A (wX8_rules cy aN qN aH qH qB aH z_vN vH vB)) 0 0 A := by
  refine Met.ofW (cc := cX8_rules) (maxL := 1) (ret := (some .int)) (by decide) rfl ?_
  intro p e s m args below meth c s₁ B hml hv
  obtain ⟨rfl, hsz, hP, hK, hD0, hN⟩ := hv
  have hx := B.exec
  have hb := B.bytes
  have hr := B.returns
  have ht0 : ∀ w ∈ W0, w.before _ s = true := fun w h => atoms_spec (ws := wsX8_rules) B.pre w (List.mem_cons_of_mem _ h)
  have hown : s.vm.findClass RX8 = some m.cls := findClass_of_methodNamed B.named
  have hlocks := B.notSynchronized
  subst hsz
  have hD : va_D A (wX8_rules cy aN qN aH qH qB aH vN vH vB) := by rw [← hAe]; exact hD0.self
  have hA : ∀ q : Nat, s.heap.size ≤ q → A q := fun q h => by rw [← hAe]; exact Or.inr h
  have hS : va_S A s.heap s.heap [] := va_S.rf
  have hl := lv_entry ([.ref aN]) (n := 1) (Nat.le_of_ble_eq_true rfl)
  rw [lg_entry_eq]
  generalize (lg_sl ([.ref aN]) ++ List.replicate (1 - (lg_sl ([.ref aN])).length) Slot.unset).toArray = ls at hl ⊢
  have hl : lv_has ls 1 [(0, .ref aN)] := hl
  unfold fX8_rules at hok
  obtain ⟨H, hH⟩ : ∃ H, H = s.heap := ⟨_, rfl⟩
  obtain ⟨locs, hlc⟩ : ∃ x : List Loc, x = [] := ⟨_, rfl⟩
  have hP : va_P D vwCl (wX8_rules cy aN qN aH qH qB aH vN vH vB) H := by rw [hH]; exact hP
  have hS : va_S A s.heap H locs := by rw [hH, hlc]; exact hS
  rw [show W p l e _ s m _ below meth c s.heap [] = W p l e _ s m _ below meth c H locs from by rw [hH, hlc]]
  refine lv_aload_n hx hb dX8_rules_0 rfl (lv_at hl 0 rfl) ?_
  refine va_get (D := D) (ci := 7) (v := .ref aH) (C := RX8) (T := TX8) (N := 9) hx hb ht0 niX8 hown hK hP 0 rfl rfl 5 (by decide) (ht0 _ wd522) (fun _ h9 => h9) rfl dX8_rules_1 ?_
  obtain ⟨r4, hc4, hok⟩ := k_bind hok
  refine kCi (wc := (wX4_stands cy aH qH vH)) (wc2 := (wX4_stands cy aH qH vH)) (wr := [(aN, oX8 vN qN aH), (qN 4, oX0 vB qB)]) (ws2 := (wX8_rules cy aN qN aH qH qB aH vN vH vB)) (kRunV (As := []) (rest := []) ⟨hx, hb, hml, hown, ht0⟩ (kX4_stands l D cy _ aH qH vH r4 hc4 _ rfl) (cwV 0 ht0 (gV wd577 wd462 wd463 wd9 wd464) rfl rfl rfl (by decide +kernel) ⟨Nat.le_of_ble_eq_true rfl, Nat.le_of_ble_eq_true rfl⟩) hK hN hP hD [1] rfl (by decide) 1 3 rfl rfl rfl hl.1 rfl (Nat.le_of_ble_eq_true rfl) dX8_rules_4 ⟨Nat.zero_le _, Nat.zero_le _⟩) hP hD hS hA [1] [0, 2] rfl rfl (by decide) (by decide) [0, 2, 1] (by decide) rfl rfl (fun H locs hP hD hS => ?_)
  refine lv_if_ne (tgt := 16) hx hb dX8_rules_7 (by decide) (fun c7 => ?_) (fun c7 => ?_)
  · have hok := k_neg c7 hok
    refine lv_aload_n hx hb dX8_rules_16 rfl (lv_at hl 0 rfl) ?_
    refine lv_aload_n hx hb dX8_rules_17 rfl (lv_at hl 0 rfl) ?_
    refine va_get (D := D) (ci := 7) (v := .ref (qN 4)) (C := RX8) (T := TX8) (N := 9) hx hb ht0 niX8 hown hK hP 0 rfl rfl 4 (by decide) (ht0 _ wd532) (fun _ h9 => h9) rfl dX8_rules_18 ?_
    obtain ⟨r21, hc21, hok⟩ := k_bind hok
    refine kCi (wc := (wX0_count cy (qN 4) qB vB)) (wc2 := (wX0_count cy (qN 4) qB vB)) (wr := [(aN, oX8 vN qN aH), (aH, oX4 vH qH)]) (ws2 := (wX8_rules cy aN qN aH qH qB aH vN vH vB)) (kRunV (As := []) (rest := [.ref aN]) ⟨hx, hb, hml, hown, ht0⟩ (kX0_count l D cy _ (qN 4) qB vB r21 hc21 _ rfl) (cwV 0 ht0 (gV wd643 wd644 wd645 wd14 wd646) rfl rfl rfl (by decide +kernel) ⟨Nat.le_of_ble_eq_true rfl, Nat.le_of_ble_eq_true rfl⟩) hK hN hP hD [2] rfl (by decide) 2 0 rfl rfl rfl hl.1 rfl (Nat.le_of_ble_eq_true rfl) dX8_rules_21 ⟨Nat.zero_le _, Nat.zero_le _⟩) hP hD hS hA [2] [0, 1] rfl rfl (by decide) (by decide) [0, 1, 2] (by decide) rfl rfl (fun H locs hP hD hS => ?_)
    obtain ⟨⟨r24, vN_24⟩, hc24, hok⟩ := k_bind hok
    try dsimp only at hok
    refine kCi (wc := (wX8_answer cy aN qN aH aH vN)) (wc2 := (wX8_answer cy aN qN aH aH vN_24)) (wr := [(aH, oX4 vH qH), (qN 4, oX0 vB qB)]) (ws2 := (wX8_rules cy aN qN aH qH qB aH vN_24 vH vB)) (kRunV (As := [.int r21]) (rest := []) ⟨hx, hb, hml, hown, ht0⟩ (kX8_answer l D cy _ aN qN aH vN r21 r24 vN_24 hc24 _ rfl) (cwV 1 ht0 (gV wd538 wd539 wd540 wd57 wd541) rfl rfl rfl (by decide +kernel) ⟨Nat.le_of_ble_eq_true rfl, Nat.le_of_ble_eq_true rfl⟩) hK hN hP hD [0] rfl (by decide) 0 7 rfl rfl rfl hl.1 rfl (Nat.le_of_ble_eq_true rfl) dX8_rules_24 ⟨Nat.zero_le _, Nat.zero_le _⟩) hP hD hS hA [0] [1, 2] rfl rfl (by decide) (by decide) [2, 0, 1] (by decide) rfl rfl (fun H locs hP hD hS => ?_)
    cases hok
    exact W.iret hx hb hr (fun t ht hW => ⟨⟨_, (), rfl, rfl, by rw [ht]; exact hP, va_K.moved hW.alike hK, hD⟩, hS.F ht⟩) hS.2.2 dX8_rules_27
  · have hok := k_pos c7 hok
    refine lv_aload_n hx hb dX8_rules_10 rfl (lv_at hl 0 rfl) ?_
    refine lv_iconst (v := 1) hx hb dX8_rules_11 (by decide) ?_
    obtain ⟨⟨r12, vN_12⟩, hc12, hok⟩ := k_bind hok
    try dsimp only at hok
    refine kCi (wc := (wX8_refuse cy aN qN aH aH vN)) (wc2 := (wX8_refuse cy aN qN aH aH vN_12)) (wr := [(aH, oX4 vH qH), (qN 4, oX0 vB qB)]) (ws2 := (wX8_rules cy aN qN aH qH qB aH vN_12 vH vB)) (kRunV (As := [.int 1]) (rest := []) ⟨hx, hb, hml, hown, ht0⟩ (kX8_refuse l D cy _ aN qN aH vN (1 : Int32) r12 vN_12 hc12 _ rfl) (cwV 1 ht0 (gV wd504 wd505 wd506 wd57 wd507) rfl rfl rfl (by decide +kernel) ⟨Nat.le_of_ble_eq_true rfl, Nat.le_of_ble_eq_true rfl⟩) hK hN hP hD [0] rfl (by decide) 0 7 rfl rfl rfl hl.1 rfl (Nat.le_of_ble_eq_true rfl) dX8_rules_12 ⟨Nat.zero_le _, Nat.zero_le _⟩) hP hD hS hA [0] [1, 2] rfl rfl (by decide) (by decide) [2, 0, 1] (by decide) rfl rfl (fun H locs hP hD hS => ?_)
    cases hok
    exact W.iret hx hb hr (fun t ht hW => ⟨⟨_, (), rfl, rfl, by rw [ht]; exact hP, va_K.moved hW.alike hK, hD⟩, hS.F ht⟩) hS.2.2 dX8_rules_15
def wsX8_ruleAt : List Cond := .code yX8_ruleAt cX8_ruleAt 2 (some .int) :: W0
abbrev wX8_ruleAt (cy : Nat → ClassId) (aN : Nat) (qN : Nat → Nat) (aH : Nat) (qH : Nat → Nat) (qB : Nat → Nat) (fvN_5 : Nat) (vN : Nat → Int32) (vH : Nat → Int32) (vB : Nat → Int32) (vB_ruleNumbers : Nat → Int32) : va_W := [(aN, oX8 vN qN fvN_5), (aH, oX4 vH qH), (qN 4, oX0 vB qB), (qB 0, rI cy 572 vB_ruleNumbers)]
set_option maxHeartbeats 4000000 in
set_option maxRecDepth 100000 in
theorem kX8_ruleAt (l : Launch) (D : va_G) (cy : Nat → ClassId) (sz : Nat) (aN : Nat) (qN : Nat → Nat) (aH : Nat) (qH : Nat → Nat) (qB : Nat → Nat) (vN : Nat → Int32) (vH : Nat → Int32) (vB : Nat → Int32) (vB_ruleNumbers : Nat → Int32) (x1 : Int32) (zr : Int32) (z_vN : Nat → Int32) (hok : fX8_ruleAt vN vH vB vB_ruleNumbers x1 = some (zr, z_vN)) (A : Nat → Prop) (hAe : va_A (wX8_ruleAt cy aN qN aH qH qB aH vN vH vB vB_ruleNumbers) sz = A) : Met l yX8_ruleAt wsX8_ruleAt ({ frames := 1, cells := 0, slots := 0, locals := 21 } : Room) (kPre D cy [.ref aN, .int x1] (wX8_ruleAt cy aN qN aH qH qB aH vN vH vB vB_ruleNumbers) sz) (kQi D cy zr A (wX8_ruleAt cy aN qN aH qH qB aH z_vN vH vB vB_ruleNumbers)) 0 0 A := by
  refine Met.ofW (cc := cX8_ruleAt) (maxL := 2) (ret := (some .int)) (by decide) rfl ?_
  intro p e s m args below meth c s₁ B hml hv
  obtain ⟨rfl, hsz, hP, hK, hD0, hN⟩ := hv
  have hx := B.exec
  have hb := B.bytes
  have hr := B.returns
  have ht0 : ∀ w ∈ W0, w.before _ s = true := fun w h => atoms_spec (ws := wsX8_ruleAt) B.pre w (List.mem_cons_of_mem _ h)
  have hown : s.vm.findClass RX8 = some m.cls := findClass_of_methodNamed B.named
  have hlocks := B.notSynchronized
  subst hsz
  have hD : va_D A (wX8_ruleAt cy aN qN aH qH qB aH vN vH vB vB_ruleNumbers) := by rw [← hAe]; exact hD0.self
  have hA : ∀ q : Nat, s.heap.size ≤ q → A q := fun q h => by rw [← hAe]; exact Or.inr h
  have hS : va_S A s.heap s.heap [] := va_S.rf
  have hl := lv_entry ([.ref aN, .int x1]) (n := 2) (Nat.le_of_ble_eq_true rfl)
  rw [lg_entry_eq]
  generalize (lg_sl ([.ref aN, .int x1]) ++ List.replicate (2 - (lg_sl ([.ref aN, .int x1])).length) Slot.unset).toArray = ls at hl ⊢
  have hl : lv_has ls 2 [(0, .ref aN), (1, .int x1)] := hl
  generalize hQe : MQ below (kQi D cy zr A (wX8_ruleAt cy aN qN aH qH qB aH z_vN vH vB vB_ruleNumbers)) ([.ref aN, .int x1] : List Value).toArray s 0 0 A = Q
  have J25 : ∀ (H : Heap) (locs : List Loc) (ls : Array Slot), va_P D vwCl (wX8_ruleAt cy aN qN aH qH qB aH vN vH vB vB_ruleNumbers) H → va_D A (wX8_ruleAt cy aN qN aH qH qB aH vN vH vB vB_ruleNumbers) → va_S A s.heap H locs → lv_has ls 2 [(0, .ref aN)] → fX8_ruleAt_J25 vN = some (zr, z_vN) → W p l e ({ frames := 1, cells := 0, slots := 0, locals := 21 } : Room) s m ([.ref aN, .int x1] : List Value).toArray below meth c H locs 0 0 Q (F0 m 25 ls []) := by
    intro  H locs ls hP hD hS hl hok
    unfold fX8_ruleAt_J25 at hok
    refine lv_aload_n hx hb dX8_ruleAt_25 rfl (lv_at hl 0 rfl) ?_
    refine lv_iconst (v := 1) hx hb dX8_ruleAt_26 (by decide) ?_
    obtain ⟨⟨r27, vN_27⟩, hc27, hok⟩ := k_bind hok
    try dsimp only at hok
    refine kCi (wc := (wX8_refuse cy aN qN aH aH vN)) (wc2 := (wX8_refuse cy aN qN aH aH vN_27)) (wr := [(aH, oX4 vH qH), (qN 4, oX0 vB qB), (qB 0, rI cy 572 vB_ruleNumbers)]) (ws2 := (wX8_ruleAt cy aN qN aH qH qB aH vN_27 vH vB vB_ruleNumbers)) (kRunV (As := [.int 1]) (rest := []) ⟨hx, hb, hml, hown, ht0⟩ (kX8_refuse l D cy _ aN qN aH vN (1 : Int32) r27 vN_27 hc27 _ rfl) (cwV 1 ht0 (gV wd504 wd505 wd506 wd57 wd507) rfl rfl rfl (by decide +kernel) ⟨Nat.le_of_ble_eq_true rfl, Nat.le_of_ble_eq_true rfl⟩) hK hN hP hD [0] rfl (by decide) 0 7 rfl rfl rfl hl.1 rfl (Nat.le_of_ble_eq_true rfl) dX8_ruleAt_27 ⟨Nat.zero_le _, Nat.zero_le _⟩) hP hD hS hA [0] [1, 2, 3] rfl rfl (by decide) (by decide) [3, 0, 1, 2] (by decide) rfl rfl (fun H locs hP hD hS => ?_)
    cases hok
    subst hQe; exact W.iret hx hb hr (fun t ht hW => ⟨⟨_, (), rfl, rfl, by rw [ht]; exact hP, va_K.moved hW.alike hK, hD⟩, hS.F ht⟩) hS.2.2 dX8_ruleAt_30
  unfold fX8_ruleAt at hok
  obtain ⟨H, hH⟩ : ∃ H, H = s.heap := ⟨_, rfl⟩
  obtain ⟨locs, hlc⟩ : ∃ x : List Loc, x = [] := ⟨_, rfl⟩
  have hP : va_P D vwCl (wX8_ruleAt cy aN qN aH qH qB aH vN vH vB vB_ruleNumbers) H := by rw [hH]; exact hP
  have hS : va_S A s.heap H locs := by rw [hH, hlc]; exact hS
  rw [show W p l e _ s m _ below meth c s.heap [] = W p l e _ s m _ below meth c H locs from by rw [hH, hlc]]
  refine lv_aload_n hx hb dX8_ruleAt_0 rfl (lv_at hl 0 rfl) ?_
  refine va_get (D := D) (ci := 7) (v := .ref aH) (C := RX8) (T := TX8) (N := 9) hx hb ht0 niX8 hown hK hP 0 rfl rfl 5 (by decide) (ht0 _ wd522) (fun _ h9 => h9) rfl dX8_ruleAt_1 ?_
  obtain ⟨r4, hc4, hok⟩ := k_bind hok
  refine kCi (wc := (wX4_stands cy aH qH vH)) (wc2 := (wX4_stands cy aH qH vH)) (wr := [(aN, oX8 vN qN aH), (qN 4, oX0 vB qB), (qB 0, rI cy 572 vB_ruleNumbers)]) (ws2 := (wX8_ruleAt cy aN qN aH qH qB aH vN vH vB vB_ruleNumbers)) (kRunV (As := []) (rest := []) ⟨hx, hb, hml, hown, ht0⟩ (kX4_stands l D cy _ aH qH vH r4 hc4 _ rfl) (cwV 0 ht0 (gV wd577 wd462 wd463 wd9 wd464) rfl rfl rfl (by decide +kernel) ⟨Nat.le_of_ble_eq_true rfl, Nat.le_of_ble_eq_true rfl⟩) hK hN hP hD [1] rfl (by decide) 1 3 rfl rfl rfl hl.1 rfl (Nat.le_of_ble_eq_true rfl) dX8_ruleAt_4 ⟨Nat.zero_le _, Nat.zero_le _⟩) hP hD hS hA [1] [0, 2, 3] rfl rfl (by decide) (by decide) [0, 3, 1, 2] (by decide) rfl rfl (fun H locs hP hD hS => ?_)
  refine lv_if_eq (tgt := 25) hx hb dX8_ruleAt_7 (by decide) (fun c7 => ?_) (fun c7 => ?_)
  · have hok := k_pos c7 hok
    exact J25  H locs ls hP hD hS (lv_sub hl [0] rfl) hok
  · have hok := k_neg c7 hok
    refine lv_iload_n hx hb dX8_ruleAt_10 rfl (lv_at hl 1 rfl) ?_
    refine lv_if_lt (tgt := 25) hx hb dX8_ruleAt_11 (by decide) (fun c11 => ?_) (fun c11 => ?_)
    · have hok := k_pos c11 hok
      exact J25  H locs ls hP hD hS (lv_sub hl [0] rfl) hok
    · have hok := k_neg c11 hok
      refine lv_iload_n hx hb dX8_ruleAt_14 rfl (lv_at hl 1 rfl) ?_
      refine lv_aload_n hx hb dX8_ruleAt_15 rfl (lv_at hl 0 rfl) ?_
      refine va_get (D := D) (ci := 7) (v := .ref (qN 4)) (C := RX8) (T := TX8) (N := 9) hx hb ht0 niX8 hown hK hP 0 rfl rfl 4 (by decide) (ht0 _ wd532) (fun _ h9 => h9) rfl dX8_ruleAt_16 ?_
      obtain ⟨r19, hc19, hok⟩ := k_bind hok
      refine kCi (wc := (wX0_count cy (qN 4) qB vB)) (wc2 := (wX0_count cy (qN 4) qB vB)) (wr := [(aN, oX8 vN qN aH), (aH, oX4 vH qH), (qB 0, rI cy 572 vB_ruleNumbers)]) (ws2 := (wX8_ruleAt cy aN qN aH qH qB aH vN vH vB vB_ruleNumbers)) (kRunV (As := []) (rest := [.int x1]) ⟨hx, hb, hml, hown, ht0⟩ (kX0_count l D cy _ (qN 4) qB vB r19 hc19 _ rfl) (cwV 0 ht0 (gV wd643 wd644 wd645 wd14 wd646) rfl rfl rfl (by decide +kernel) ⟨Nat.le_of_ble_eq_true rfl, Nat.le_of_ble_eq_true rfl⟩) hK hN hP hD [2] rfl (by decide) 2 0 rfl rfl rfl hl.1 rfl (Nat.le_of_ble_eq_true rfl) dX8_ruleAt_19 ⟨Nat.zero_le _, Nat.zero_le _⟩) hP hD hS hA [2] [0, 1, 3] rfl rfl (by decide) (by decide) [0, 1, 3, 2] (by decide) rfl rfl (fun H locs hP hD hS => ?_)
      refine lv_icmp_lt (tgt := 31) hx hb dX8_ruleAt_22 (by decide) (fun c22 => ?_) (fun c22 => ?_)
      · have hok := k_pos c22 hok
        refine lv_aload_n hx hb dX8_ruleAt_31 rfl (lv_at hl 0 rfl) ?_
        refine lv_aload_n hx hb dX8_ruleAt_32 rfl (lv_at hl 0 rfl) ?_
        refine va_get (D := D) (ci := 7) (v := .ref (qN 4)) (C := RX8) (T := TX8) (N := 9) hx hb ht0 niX8 hown hK hP 0 rfl rfl 4 (by decide) (ht0 _ wd532) (fun _ h9 => h9) rfl dX8_ruleAt_33 ?_
        refine lv_iload_n hx hb dX8_ruleAt_36 rfl (lv_at hl 1 rfl) ?_
        obtain ⟨r37, hc37, hok⟩ := k_bind hok
        refine kCi (wc := (wX0_ruleNumber cy (qN 4) qB vB vB_ruleNumbers)) (wc2 := (wX0_ruleNumber cy (qN 4) qB vB vB_ruleNumbers)) (wr := [(aN, oX8 vN qN aH), (aH, oX4 vH qH)]) (ws2 := (wX8_ruleAt cy aN qN aH qH qB aH vN vH vB vB_ruleNumbers)) (kRunV (As := [.int x1]) (rest := [.ref aN]) ⟨hx, hb, hml, hown, ht0⟩ (kX0_ruleNumber l D cy _ (qN 4) qB vB vB_ruleNumbers x1 r37 hc37 _ rfl) (cwV 1 ht0 (gV wd647 wd18 wd19 wd14 wd20) rfl rfl rfl (by decide +kernel) ⟨Nat.le_of_ble_eq_true rfl, Nat.le_of_ble_eq_true rfl⟩) hK hN hP hD [2, 3] rfl (by decide) 2 0 rfl rfl rfl hl.1 rfl (Nat.le_of_ble_eq_true rfl) dX8_ruleAt_37 ⟨Nat.zero_le _, Nat.zero_le _⟩) hP hD hS hA [2, 3] [0, 1] rfl rfl (by decide) (by decide) [0, 1, 2, 3] (by decide) rfl rfl (fun H locs hP hD hS => ?_)
        obtain ⟨⟨r40, vN_40⟩, hc40, hok⟩ := k_bind hok
        try dsimp only at hok
        refine kCi (wc := (wX8_answer cy aN qN aH aH vN)) (wc2 := (wX8_answer cy aN qN aH aH vN_40)) (wr := [(aH, oX4 vH qH), (qN 4, oX0 vB qB), (qB 0, rI cy 572 vB_ruleNumbers)]) (ws2 := (wX8_ruleAt cy aN qN aH qH qB aH vN_40 vH vB vB_ruleNumbers)) (kRunV (As := [.int r37]) (rest := []) ⟨hx, hb, hml, hown, ht0⟩ (kX8_answer l D cy _ aN qN aH vN r37 r40 vN_40 hc40 _ rfl) (cwV 1 ht0 (gV wd538 wd539 wd540 wd57 wd541) rfl rfl rfl (by decide +kernel) ⟨Nat.le_of_ble_eq_true rfl, Nat.le_of_ble_eq_true rfl⟩) hK hN hP hD [0] rfl (by decide) 0 7 rfl rfl rfl hl.1 rfl (Nat.le_of_ble_eq_true rfl) dX8_ruleAt_40 ⟨Nat.zero_le _, Nat.zero_le _⟩) hP hD hS hA [0] [1, 2, 3] rfl rfl (by decide) (by decide) [3, 0, 1, 2] (by decide) rfl rfl (fun H locs hP hD hS => ?_)
        cases hok
        subst hQe; exact W.iret hx hb hr (fun t ht hW => ⟨⟨_, (), rfl, rfl, by rw [ht]; exact hP, va_K.moved hW.alike hK, hD⟩, hS.F ht⟩) hS.2.2 dX8_ruleAt_43
      · have hok := k_neg c22 hok
        exact J25  H locs ls hP hD hS (lv_sub hl [0] rfl) hok
def wsX8_there : List Cond := .code yX8_there cX8_there 3 (some .int) :: W0
abbrev wX8_there (cy : Nat → ClassId) (aN : Nat) (qN : Nat → Nat) (aH : Nat) (qH : Nat → Nat) (qB : Nat → Nat) (fvN_5 : Nat) (vN : Nat → Int32) (vH : Nat → Int32) (vB : Nat → Int32) (vB_ruleNumbers : Nat → Int32) : va_W := [(aN, oX8 vN qN fvN_5), (aH, oX4 vH qH), (qN 4, oX0 vB qB), (qB 0, rI cy 572 vB_ruleNumbers)]
set_option maxHeartbeats 4000000 in
set_option maxRecDepth 100000 in
theorem kX8_there (l : Launch) (D : va_G) (cy : Nat → ClassId) (sz : Nat) (aN : Nat) (qN : Nat → Nat) (aH : Nat) (qH : Nat → Nat) (qB : Nat → Nat) (vN : Nat → Int32) (vH : Nat → Int32) (vB : Nat → Int32) (vB_ruleNumbers : Nat → Int32) (x1 : Int32) (x2 : Int32) (zr : Int32) (z_vN : Nat → Int32) (hok : fX8_there vN vH vB vB_ruleNumbers x1 x2 = some (zr, z_vN)) (A : Nat → Prop) (hAe : va_A (wX8_there cy aN qN aH qH qB aH vN vH vB vB_ruleNumbers) sz = A) : Met l yX8_there wsX8_there ({ frames := 2, cells := 0, slots := 0, locals := 46 } : Room) (kPre D cy [.ref aN, .int x1, .int x2] (wX8_there cy aN qN aH qH qB aH vN vH vB vB_ruleNumbers) sz) (kQi D cy zr A (wX8_there cy aN qN aH qH qB aH z_vN vH vB vB_ruleNumbers)) 0 0 A := by
  refine Met.ofW (cc := cX8_there) (maxL := 3) (ret := (some .int)) (by decide) rfl ?_
  intro p e s m args below meth c s₁ B hml hv
  obtain ⟨rfl, hsz, hP, hK, hD0, hN⟩ := hv
  have hx := B.exec
  have hb := B.bytes
  have hr := B.returns
  have ht0 : ∀ w ∈ W0, w.before _ s = true := fun w h => atoms_spec (ws := wsX8_there) B.pre w (List.mem_cons_of_mem _ h)
  have hown : s.vm.findClass RX8 = some m.cls := findClass_of_methodNamed B.named
  have hlocks := B.notSynchronized
  subst hsz
  have hD : va_D A (wX8_there cy aN qN aH qH qB aH vN vH vB vB_ruleNumbers) := by rw [← hAe]; exact hD0.self
  have hA : ∀ q : Nat, s.heap.size ≤ q → A q := fun q h => by rw [← hAe]; exact Or.inr h
  have hS : va_S A s.heap s.heap [] := va_S.rf
  have hl := lv_entry ([.ref aN, .int x1, .int x2]) (n := 3) (Nat.le_of_ble_eq_true rfl)
  rw [lg_entry_eq]
  generalize (lg_sl ([.ref aN, .int x1, .int x2]) ++ List.replicate (3 - (lg_sl ([.ref aN, .int x1, .int x2])).length) Slot.unset).toArray = ls at hl ⊢
  have hl : lv_has ls 3 [(0, .ref aN), (1, .int x1), (2, .int x2)] := hl
  generalize hQe : MQ below (kQi D cy zr A (wX8_there cy aN qN aH qH qB aH z_vN vH vB vB_ruleNumbers)) ([.ref aN, .int x1, .int x2] : List Value).toArray s 0 0 A = Q
  have J36 : ∀ (H : Heap) (locs : List Loc) (ls : Array Slot), va_P D vwCl (wX8_there cy aN qN aH qH qB aH vN vH vB vB_ruleNumbers) H → va_D A (wX8_there cy aN qN aH qH qB aH vN vH vB vB_ruleNumbers) → va_S A s.heap H locs → lv_has ls 3 [(0, .ref aN)] → fX8_there_J36 vN = some (zr, z_vN) → W p l e ({ frames := 2, cells := 0, slots := 0, locals := 46 } : Room) s m ([.ref aN, .int x1, .int x2] : List Value).toArray below meth c H locs 0 0 Q (F0 m 36 ls []) := by
    intro  H locs ls hP hD hS hl hok
    unfold fX8_there_J36 at hok
    refine lv_aload_n hx hb dX8_there_36 rfl (lv_at hl 0 rfl) ?_
    refine lv_iconst (v := 2) hx hb dX8_there_37 (by decide) ?_
    obtain ⟨⟨r38, vN_38⟩, hc38, hok⟩ := k_bind hok
    try dsimp only at hok
    refine kCi (wc := (wX8_refuse cy aN qN aH aH vN)) (wc2 := (wX8_refuse cy aN qN aH aH vN_38)) (wr := [(aH, oX4 vH qH), (qN 4, oX0 vB qB), (qB 0, rI cy 572 vB_ruleNumbers)]) (ws2 := (wX8_there cy aN qN aH qH qB aH vN_38 vH vB vB_ruleNumbers)) (kRunV (As := [.int 2]) (rest := []) ⟨hx, hb, hml, hown, ht0⟩ (kX8_refuse l D cy _ aN qN aH vN (2 : Int32) r38 vN_38 hc38 _ rfl) (cwV 1 ht0 (gV wd504 wd505 wd506 wd57 wd507) rfl rfl rfl (by decide +kernel) ⟨Nat.le_of_ble_eq_true rfl, Nat.le_of_ble_eq_true rfl⟩) hK hN hP hD [0] rfl (by decide) 0 7 rfl rfl rfl hl.1 rfl (Nat.le_of_ble_eq_true rfl) dX8_there_38 ⟨Nat.zero_le _, Nat.zero_le _⟩) hP hD hS hA [0] [1, 2, 3] rfl rfl (by decide) (by decide) [3, 0, 1, 2] (by decide) rfl rfl (fun H locs hP hD hS => ?_)
    cases hok
    subst hQe; exact W.iret hx hb hr (fun t ht hW => ⟨⟨_, (), rfl, rfl, by rw [ht]; exact hP, va_K.moved hW.alike hK, hD⟩, hS.F ht⟩) hS.2.2 dX8_there_41
  unfold fX8_there at hok
  obtain ⟨H, hH⟩ : ∃ H, H = s.heap := ⟨_, rfl⟩
  obtain ⟨locs, hlc⟩ : ∃ x : List Loc, x = [] := ⟨_, rfl⟩
  have hP : va_P D vwCl (wX8_there cy aN qN aH qH qB aH vN vH vB vB_ruleNumbers) H := by rw [hH]; exact hP
  have hS : va_S A s.heap H locs := by rw [hH, hlc]; exact hS
  rw [show W p l e _ s m _ below meth c s.heap [] = W p l e _ s m _ below meth c H locs from by rw [hH, hlc]]
  refine lv_aload_n hx hb dX8_there_0 rfl (lv_at hl 0 rfl) ?_
  refine va_get (D := D) (ci := 7) (v := .ref aH) (C := RX8) (T := TX8) (N := 9) hx hb ht0 niX8 hown hK hP 0 rfl rfl 5 (by decide) (ht0 _ wd522) (fun _ h9 => h9) rfl dX8_there_1 ?_
  obtain ⟨r4, hc4, hok⟩ := k_bind hok
  refine kCi (wc := (wX4_stands cy aH qH vH)) (wc2 := (wX4_stands cy aH qH vH)) (wr := [(aN, oX8 vN qN aH), (qN 4, oX0 vB qB), (qB 0, rI cy 572 vB_ruleNumbers)]) (ws2 := (wX8_there cy aN qN aH qH qB aH vN vH vB vB_ruleNumbers)) (kRunV (As := []) (rest := []) ⟨hx, hb, hml, hown, ht0⟩ (kX4_stands l D cy _ aH qH vH r4 hc4 _ rfl) (cwV 0 ht0 (gV wd577 wd462 wd463 wd9 wd464) rfl rfl rfl (by decide +kernel) ⟨Nat.le_of_ble_eq_true rfl, Nat.le_of_ble_eq_true rfl⟩) hK hN hP hD [1] rfl (by decide) 1 3 rfl rfl rfl hl.1 rfl (Nat.le_of_ble_eq_true rfl) dX8_there_4 ⟨Nat.zero_le _, Nat.zero_le _⟩) hP hD hS hA [1] [0, 2, 3] rfl rfl (by decide) (by decide) [0, 3, 1, 2] (by decide) rfl rfl (fun H locs hP hD hS => ?_)
  refine lv_if_ne (tgt := 16) hx hb dX8_there_7 (by decide) (fun c7 => ?_) (fun c7 => ?_)
  · have hok := k_neg c7 hok
    refine lv_iload_n hx hb dX8_there_16 rfl (lv_at hl 1 rfl) ?_
    refine lv_if_lt (tgt := 36) hx hb dX8_there_17 (by decide) (fun c17 => ?_) (fun c17 => ?_)
    · have hok := k_pos c17 hok
      exact J36  H locs ls hP hD hS (lv_sub hl [0] rfl) hok
    · have hok := k_neg c17 hok
      refine lv_iload_n hx hb dX8_there_20 rfl (lv_at hl 1 rfl) ?_
      refine lv_bipush (v := 100) hx hb dX8_there_21 (by decide) ?_
      refine lv_icmp_ge (tgt := 36) hx hb dX8_there_23 (by decide) (fun c23 => ?_) (fun c23 => ?_)
      · have hok := k_pos c23 hok
        exact J36  H locs ls hP hD hS (lv_sub hl [0] rfl) hok
      · have hok := k_neg c23 hok
        refine lv_iload_n hx hb dX8_there_26 rfl (lv_at hl 2 rfl) ?_
        refine lv_if_lt (tgt := 36) hx hb dX8_there_27 (by decide) (fun c27 => ?_) (fun c27 => ?_)
        · have hok := k_pos c27 hok
          exact J36  H locs ls hP hD hS (lv_sub hl [0] rfl) hok
        · have hok := k_neg c27 hok
          refine lv_iload_n hx hb dX8_there_30 rfl (lv_at hl 2 rfl) ?_
          refine lv_bipush (v := 12) hx hb dX8_there_31 (by decide) ?_
          refine lv_icmp_lt (tgt := 42) hx hb dX8_there_33 (by decide) (fun c33 => ?_) (fun c33 => ?_)
          · have hok := k_pos c33 hok
            refine lv_aload_n hx hb dX8_there_42 rfl (lv_at hl 0 rfl) ?_
            refine lv_aload_n hx hb dX8_there_43 rfl (lv_at hl 0 rfl) ?_
            refine va_get (D := D) (ci := 7) (v := .ref (qN 4)) (C := RX8) (T := TX8) (N := 9) hx hb ht0 niX8 hown hK hP 0 rfl rfl 4 (by decide) (ht0 _ wd532) (fun _ h9 => h9) rfl dX8_there_44 ?_
            refine lv_iload_n hx hb dX8_there_47 rfl (lv_at hl 1 rfl) ?_
            refine lv_iload_n hx hb dX8_there_48 rfl (lv_at hl 2 rfl) ?_
            obtain ⟨r49, hc49, hok⟩ := k_bind hok
            refine kCi (wc := (wX0_countAt cy (qN 4) qB vB vB_ruleNumbers)) (wc2 := (wX0_countAt cy (qN 4) qB vB vB_ruleNumbers)) (wr := [(aN, oX8 vN qN aH), (aH, oX4 vH qH)]) (ws2 := (wX8_there cy aN qN aH qH qB aH vN vH vB vB_ruleNumbers)) (kRunV (As := [.int x1, .int x2]) (rest := [.ref aN]) ⟨hx, hb, hml, hown, ht0⟩ (kX0_countAt l D cy _ (qN 4) qB vB vB_ruleNumbers x1 x2 r49 hc49 _ rfl) (cwV 2 ht0 (gV wd648 wd649 wd650 wd14 wd651) rfl rfl rfl (by decide +kernel) ⟨Nat.le_of_ble_eq_true rfl, Nat.le_of_ble_eq_true rfl⟩) hK hN hP hD [2, 3] rfl (by decide) 2 0 rfl rfl rfl hl.1 rfl (Nat.le_of_ble_eq_true rfl) dX8_there_49 ⟨Nat.zero_le _, Nat.zero_le _⟩) hP hD hS hA [2, 3] [0, 1] rfl rfl (by decide) (by decide) [0, 1, 2, 3] (by decide) rfl rfl (fun H locs hP hD hS => ?_)
            obtain ⟨⟨r52, vN_52⟩, hc52, hok⟩ := k_bind hok
            try dsimp only at hok
            refine kCi (wc := (wX8_answer cy aN qN aH aH vN)) (wc2 := (wX8_answer cy aN qN aH aH vN_52)) (wr := [(aH, oX4 vH qH), (qN 4, oX0 vB qB), (qB 0, rI cy 572 vB_ruleNumbers)]) (ws2 := (wX8_there cy aN qN aH qH qB aH vN_52 vH vB vB_ruleNumbers)) (kRunV (As := [.int r49]) (rest := []) ⟨hx, hb, hml, hown, ht0⟩ (kX8_answer l D cy _ aN qN aH vN r49 r52 vN_52 hc52 _ rfl) (cwV 1 ht0 (gV wd538 wd539 wd540 wd57 wd541) rfl rfl rfl (by decide +kernel) ⟨Nat.le_of_ble_eq_true rfl, Nat.le_of_ble_eq_true rfl⟩) hK hN hP hD [0] rfl (by decide) 0 7 rfl rfl rfl hl.1 rfl (Nat.le_of_ble_eq_true rfl) dX8_there_52 ⟨Nat.zero_le _, Nat.zero_le _⟩) hP hD hS hA [0] [1, 2, 3] rfl rfl (by decide) (by decide) [3, 0, 1, 2] (by decide) rfl rfl (fun H locs hP hD hS => ?_)
            cases hok
            subst hQe; exact W.iret hx hb hr (fun t ht hW => ⟨⟨_, (), rfl, rfl, by rw [ht]; exact hP, va_K.moved hW.alike hK, hD⟩, hS.F ht⟩) hS.2.2 dX8_there_55
          · have hok := k_neg c33 hok
            exact J36  H locs ls hP hD hS (lv_sub hl [0] rfl) hok
  · have hok := k_pos c7 hok
    refine lv_aload_n hx hb dX8_there_10 rfl (lv_at hl 0 rfl) ?_
    refine lv_iconst (v := 1) hx hb dX8_there_11 (by decide) ?_
    obtain ⟨⟨r12, vN_12⟩, hc12, hok⟩ := k_bind hok
    try dsimp only at hok
    refine kCi (wc := (wX8_refuse cy aN qN aH aH vN)) (wc2 := (wX8_refuse cy aN qN aH aH vN_12)) (wr := [(aH, oX4 vH qH), (qN 4, oX0 vB qB), (qB 0, rI cy 572 vB_ruleNumbers)]) (ws2 := (wX8_there cy aN qN aH qH qB aH vN_12 vH vB vB_ruleNumbers)) (kRunV (As := [.int 1]) (rest := []) ⟨hx, hb, hml, hown, ht0⟩ (kX8_refuse l D cy _ aN qN aH vN (1 : Int32) r12 vN_12 hc12 _ rfl) (cwV 1 ht0 (gV wd504 wd505 wd506 wd57 wd507) rfl rfl rfl (by decide +kernel) ⟨Nat.le_of_ble_eq_true rfl, Nat.le_of_ble_eq_true rfl⟩) hK hN hP hD [0] rfl (by decide) 0 7 rfl rfl rfl hl.1 rfl (Nat.le_of_ble_eq_true rfl) dX8_there_12 ⟨Nat.zero_le _, Nat.zero_le _⟩) hP hD hS hA [0] [1, 2, 3] rfl rfl (by decide) (by decide) [3, 0, 1, 2] (by decide) rfl rfl (fun H locs hP hD hS => ?_)
    cases hok
    subst hQe; exact W.iret hx hb hr (fun t ht hW => ⟨⟨_, (), rfl, rfl, by rw [ht]; exact hP, va_K.moved hW.alike hK, hD⟩, hS.F ht⟩) hS.2.2 dX8_there_15
def wsX8_surely : List Cond := .code yX8_surely cX8_surely 2 (some .int) :: W0
abbrev wX8_surely (cy : Nat → ClassId) (aN : Nat) (qN : Nat → Nat) (aH : Nat) (qH : Nat → Nat) (qB : Nat → Nat) (fvN_5 : Nat) (vN : Nat → Int32) (vH : Nat → Int32) (vB : Nat → Int32) (vB_ruleNumbers : Nat → Int32) : va_W := [(aN, oX8 vN qN fvN_5), (aH, oX4 vH qH), (qN 4, oX0 vB qB), (qB 0, rI cy 572 vB_ruleNumbers)]
set_option maxHeartbeats 4000000 in
set_option maxRecDepth 100000 in
theorem kX8_surely (l : Launch) (D : va_G) (cy : Nat → ClassId) (sz : Nat) (aN : Nat) (qN : Nat → Nat) (aH : Nat) (qH : Nat → Nat) (qB : Nat → Nat) (vN : Nat → Int32) (vH : Nat → Int32) (vB : Nat → Int32) (vB_ruleNumbers : Nat → Int32) (x1 : Int32) (zr : Int32) (z_vN : Nat → Int32) (hok : fX8_surely vN vH vB vB_ruleNumbers x1 = some (zr, z_vN)) (A : Nat → Prop) (hAe : va_A (wX8_surely cy aN qN aH qH qB aH vN vH vB vB_ruleNumbers) sz = A) : Met l yX8_surely wsX8_surely ({ frames := 3, cells := 0, slots := 0, locals := 66 } : Room) (kPre D cy [.ref aN, .int x1] (wX8_surely cy aN qN aH qH qB aH vN vH vB vB_ruleNumbers) sz) (kQi D cy zr A (wX8_surely cy aN qN aH qH qB aH z_vN vH vB vB_ruleNumbers)) 0 0 A := by
  refine Met.ofW (cc := cX8_surely) (maxL := 2) (ret := (some .int)) (by decide) rfl ?_
  intro p e s m args below meth c s₁ B hml hv
  obtain ⟨rfl, hsz, hP, hK, hD0, hN⟩ := hv
  have hx := B.exec
  have hb := B.bytes
  have hr := B.returns
  have ht0 : ∀ w ∈ W0, w.before _ s = true := fun w h => atoms_spec (ws := wsX8_surely) B.pre w (List.mem_cons_of_mem _ h)
  have hown : s.vm.findClass RX8 = some m.cls := findClass_of_methodNamed B.named
  have hlocks := B.notSynchronized
  subst hsz
  have hD : va_D A (wX8_surely cy aN qN aH qH qB aH vN vH vB vB_ruleNumbers) := by rw [← hAe]; exact hD0.self
  have hA : ∀ q : Nat, s.heap.size ≤ q → A q := fun q h => by rw [← hAe]; exact Or.inr h
  have hS : va_S A s.heap s.heap [] := va_S.rf
  have hl := lv_entry ([.ref aN, .int x1]) (n := 2) (Nat.le_of_ble_eq_true rfl)
  rw [lg_entry_eq]
  generalize (lg_sl ([.ref aN, .int x1]) ++ List.replicate (2 - (lg_sl ([.ref aN, .int x1])).length) Slot.unset).toArray = ls at hl ⊢
  have hl : lv_has ls 2 [(0, .ref aN), (1, .int x1)] := hl
  generalize hQe : MQ below (kQi D cy zr A (wX8_surely cy aN qN aH qH qB aH z_vN vH vB vB_ruleNumbers)) ([.ref aN, .int x1] : List Value).toArray s 0 0 A = Q
  have J26 : ∀ (H : Heap) (locs : List Loc) (ls : Array Slot), va_P D vwCl (wX8_surely cy aN qN aH qH qB aH vN vH vB vB_ruleNumbers) H → va_D A (wX8_surely cy aN qN aH qH qB aH vN vH vB vB_ruleNumbers) → va_S A s.heap H locs → lv_has ls 2 [(0, .ref aN)] → fX8_surely_J26 vN = some (zr, z_vN) → W p l e ({ frames := 3, cells := 0, slots := 0, locals := 66 } : Room) s m ([.ref aN, .int x1] : List Value).toArray below meth c H locs 0 0 Q (F0 m 26 ls []) := by
    intro  H locs ls hP hD hS hl hok
    unfold fX8_surely_J26 at hok
    refine lv_aload_n hx hb dX8_surely_26 rfl (lv_at hl 0 rfl) ?_
    refine lv_iconst (v := 2) hx hb dX8_surely_27 (by decide) ?_
    obtain ⟨⟨r28, vN_28⟩, hc28, hok⟩ := k_bind hok
    try dsimp only at hok
    refine kCi (wc := (wX8_refuse cy aN qN aH aH vN)) (wc2 := (wX8_refuse cy aN qN aH aH vN_28)) (wr := [(aH, oX4 vH qH), (qN 4, oX0 vB qB), (qB 0, rI cy 572 vB_ruleNumbers)]) (ws2 := (wX8_surely cy aN qN aH qH qB aH vN_28 vH vB vB_ruleNumbers)) (kRunV (As := [.int 2]) (rest := []) ⟨hx, hb, hml, hown, ht0⟩ (kX8_refuse l D cy _ aN qN aH vN (2 : Int32) r28 vN_28 hc28 _ rfl) (cwV 1 ht0 (gV wd504 wd505 wd506 wd57 wd507) rfl rfl rfl (by decide +kernel) ⟨Nat.le_of_ble_eq_true rfl, Nat.le_of_ble_eq_true rfl⟩) hK hN hP hD [0] rfl (by decide) 0 7 rfl rfl rfl hl.1 rfl (Nat.le_of_ble_eq_true rfl) dX8_surely_28 ⟨Nat.zero_le _, Nat.zero_le _⟩) hP hD hS hA [0] [1, 2, 3] rfl rfl (by decide) (by decide) [3, 0, 1, 2] (by decide) rfl rfl (fun H locs hP hD hS => ?_)
    cases hok
    subst hQe; exact W.iret hx hb hr (fun t ht hW => ⟨⟨_, (), rfl, rfl, by rw [ht]; exact hP, va_K.moved hW.alike hK, hD⟩, hS.F ht⟩) hS.2.2 dX8_surely_31
  unfold fX8_surely at hok
  obtain ⟨H, hH⟩ : ∃ H, H = s.heap := ⟨_, rfl⟩
  obtain ⟨locs, hlc⟩ : ∃ x : List Loc, x = [] := ⟨_, rfl⟩
  have hP : va_P D vwCl (wX8_surely cy aN qN aH qH qB aH vN vH vB vB_ruleNumbers) H := by rw [hH]; exact hP
  have hS : va_S A s.heap H locs := by rw [hH, hlc]; exact hS
  rw [show W p l e _ s m _ below meth c s.heap [] = W p l e _ s m _ below meth c H locs from by rw [hH, hlc]]
  refine lv_aload_n hx hb dX8_surely_0 rfl (lv_at hl 0 rfl) ?_
  refine va_get (D := D) (ci := 7) (v := .ref aH) (C := RX8) (T := TX8) (N := 9) hx hb ht0 niX8 hown hK hP 0 rfl rfl 5 (by decide) (ht0 _ wd522) (fun _ h9 => h9) rfl dX8_surely_1 ?_
  obtain ⟨r4, hc4, hok⟩ := k_bind hok
  refine kCi (wc := (wX4_stands cy aH qH vH)) (wc2 := (wX4_stands cy aH qH vH)) (wr := [(aN, oX8 vN qN aH), (qN 4, oX0 vB qB), (qB 0, rI cy 572 vB_ruleNumbers)]) (ws2 := (wX8_surely cy aN qN aH qH qB aH vN vH vB vB_ruleNumbers)) (kRunV (As := []) (rest := []) ⟨hx, hb, hml, hown, ht0⟩ (kX4_stands l D cy _ aH qH vH r4 hc4 _ rfl) (cwV 0 ht0 (gV wd577 wd462 wd463 wd9 wd464) rfl rfl rfl (by decide +kernel) ⟨Nat.le_of_ble_eq_true rfl, Nat.le_of_ble_eq_true rfl⟩) hK hN hP hD [1] rfl (by decide) 1 3 rfl rfl rfl hl.1 rfl (Nat.le_of_ble_eq_true rfl) dX8_surely_4 ⟨Nat.zero_le _, Nat.zero_le _⟩) hP hD hS hA [1] [0, 2, 3] rfl rfl (by decide) (by decide) [0, 3, 1, 2] (by decide) rfl rfl (fun H locs hP hD hS => ?_)
  refine lv_if_ne (tgt := 16) hx hb dX8_surely_7 (by decide) (fun c7 => ?_) (fun c7 => ?_)
  · have hok := k_neg c7 hok
    refine lv_iload_n hx hb dX8_surely_16 rfl (lv_at hl 1 rfl) ?_
    refine lv_if_lt (tgt := 26) hx hb dX8_surely_17 (by decide) (fun c17 => ?_) (fun c17 => ?_)
    · have hok := k_pos c17 hok
      exact J26  H locs ls hP hD hS (lv_sub hl [0] rfl) hok
    · have hok := k_neg c17 hok
      refine lv_iload_n hx hb dX8_surely_20 rfl (lv_at hl 1 rfl) ?_
      refine lv_bipush (v := 100) hx hb dX8_surely_21 (by decide) ?_
      refine lv_icmp_lt (tgt := 32) hx hb dX8_surely_23 (by decide) (fun c23 => ?_) (fun c23 => ?_)
      · have hok := k_pos c23 hok
        refine lv_aload_n hx hb dX8_surely_32 rfl (lv_at hl 0 rfl) ?_
        refine lv_aload_n hx hb dX8_surely_33 rfl (lv_at hl 0 rfl) ?_
        refine va_get (D := D) (ci := 7) (v := .ref (qN 4)) (C := RX8) (T := TX8) (N := 9) hx hb ht0 niX8 hown hK hP 0 rfl rfl 4 (by decide) (ht0 _ wd532) (fun _ h9 => h9) rfl dX8_surely_34 ?_
        refine lv_iload_n hx hb dX8_surely_37 rfl (lv_at hl 1 rfl) ?_
        obtain ⟨r38, hc38, hok⟩ := k_bind hok
        refine kCi (wc := (wX0_firstSure cy (qN 4) qB vB vB_ruleNumbers)) (wc2 := (wX0_firstSure cy (qN 4) qB vB vB_ruleNumbers)) (wr := [(aN, oX8 vN qN aH), (aH, oX4 vH qH)]) (ws2 := (wX8_surely cy aN qN aH qH qB aH vN vH vB vB_ruleNumbers)) (kRunV (As := [.int x1]) (rest := [.ref aN]) ⟨hx, hb, hml, hown, ht0⟩ (kX0_firstSure l D cy _ (qN 4) qB vB vB_ruleNumbers x1 r38 hc38 _ rfl) (cwV 1 ht0 (gV wd652 wd653 wd654 wd14 wd655) rfl rfl rfl (by decide +kernel) ⟨Nat.le_of_ble_eq_true rfl, Nat.le_of_ble_eq_true rfl⟩) hK hN hP hD [2, 3] rfl (by decide) 2 0 rfl rfl rfl hl.1 rfl (Nat.le_of_ble_eq_true rfl) dX8_surely_38 ⟨Nat.zero_le _, Nat.zero_le _⟩) hP hD hS hA [2, 3] [0, 1] rfl rfl (by decide) (by decide) [0, 1, 2, 3] (by decide) rfl rfl (fun H locs hP hD hS => ?_)
        obtain ⟨⟨r41, vN_41⟩, hc41, hok⟩ := k_bind hok
        try dsimp only at hok
        refine kCi (wc := (wX8_answer cy aN qN aH aH vN)) (wc2 := (wX8_answer cy aN qN aH aH vN_41)) (wr := [(aH, oX4 vH qH), (qN 4, oX0 vB qB), (qB 0, rI cy 572 vB_ruleNumbers)]) (ws2 := (wX8_surely cy aN qN aH qH qB aH vN_41 vH vB vB_ruleNumbers)) (kRunV (As := [.int r38]) (rest := []) ⟨hx, hb, hml, hown, ht0⟩ (kX8_answer l D cy _ aN qN aH vN r38 r41 vN_41 hc41 _ rfl) (cwV 1 ht0 (gV wd538 wd539 wd540 wd57 wd541) rfl rfl rfl (by decide +kernel) ⟨Nat.le_of_ble_eq_true rfl, Nat.le_of_ble_eq_true rfl⟩) hK hN hP hD [0] rfl (by decide) 0 7 rfl rfl rfl hl.1 rfl (Nat.le_of_ble_eq_true rfl) dX8_surely_41 ⟨Nat.zero_le _, Nat.zero_le _⟩) hP hD hS hA [0] [1, 2, 3] rfl rfl (by decide) (by decide) [3, 0, 1, 2] (by decide) rfl rfl (fun H locs hP hD hS => ?_)
        cases hok
        subst hQe; exact W.iret hx hb hr (fun t ht hW => ⟨⟨_, (), rfl, rfl, by rw [ht]; exact hP, va_K.moved hW.alike hK, hD⟩, hS.F ht⟩) hS.2.2 dX8_surely_44
      · have hok := k_neg c23 hok
        exact J26  H locs ls hP hD hS (lv_sub hl [0] rfl) hok
  · have hok := k_pos c7 hok
    refine lv_aload_n hx hb dX8_surely_10 rfl (lv_at hl 0 rfl) ?_
    refine lv_iconst (v := 1) hx hb dX8_surely_11 (by decide) ?_
    obtain ⟨⟨r12, vN_12⟩, hc12, hok⟩ := k_bind hok
    try dsimp only at hok
    refine kCi (wc := (wX8_refuse cy aN qN aH aH vN)) (wc2 := (wX8_refuse cy aN qN aH aH vN_12)) (wr := [(aH, oX4 vH qH), (qN 4, oX0 vB qB), (qB 0, rI cy 572 vB_ruleNumbers)]) (ws2 := (wX8_surely cy aN qN aH qH qB aH vN_12 vH vB vB_ruleNumbers)) (kRunV (As := [.int 1]) (rest := []) ⟨hx, hb, hml, hown, ht0⟩ (kX8_refuse l D cy _ aN qN aH vN (1 : Int32) r12 vN_12 hc12 _ rfl) (cwV 1 ht0 (gV wd504 wd505 wd506 wd57 wd507) rfl rfl rfl (by decide +kernel) ⟨Nat.le_of_ble_eq_true rfl, Nat.le_of_ble_eq_true rfl⟩) hK hN hP hD [0] rfl (by decide) 0 7 rfl rfl rfl hl.1 rfl (Nat.le_of_ble_eq_true rfl) dX8_surely_12 ⟨Nat.zero_le _, Nat.zero_le _⟩) hP hD hS hA [0] [1, 2, 3] rfl rfl (by decide) (by decide) [3, 0, 1, 2] (by decide) rfl rfl (fun H locs hP hD hS => ?_)
    cases hok
    subst hQe; exact W.iret hx hb hr (fun t ht hW => ⟨⟨_, (), rfl, rfl, by rw [ht]; exact hP, va_K.moved hW.alike hK, hD⟩, hS.F ht⟩) hS.2.2 dX8_surely_15
def wsX8_look : List Cond := .code yX8_look cX8_look 1 (some .int) :: W0
abbrev wX8_look (cy : Nat → ClassId) (aN : Nat) (qN : Nat → Nat) (aH : Nat) (qH : Nat → Nat) (qB : Nat → Nat) (fvN_5 : Nat) (vN : Nat → Int32) (vH : Nat → Int32) (vB : Nat → Int32) (vB_seen : Nat → Int32) (vB_ruleNumbers : Nat → Int32) : va_W := [(aN, oX8 vN qN fvN_5), (aH, oX4 vH qH), (qN 4, oX0 vB qB), (qB 1, rI cy 12 vB_seen), (qB 0, rI cy 572 vB_ruleNumbers)]
set_option maxHeartbeats 4000000 in
set_option maxRecDepth 100000 in
theorem kX8_look (l : Launch) (D : va_G) (cy : Nat → ClassId) (sz : Nat) (aN : Nat) (qN : Nat → Nat) (aH : Nat) (qH : Nat → Nat) (qB : Nat → Nat) (vN : Nat → Int32) (vH : Nat → Int32) (vB : Nat → Int32) (vB_seen : Nat → Int32) (vB_ruleNumbers : Nat → Int32) (zr : Int32) (z_vN : Nat → Int32) (z_vB : Nat → Int32) (z_vB_seen : Nat → Int32) (hok : fX8_look vN vH vB vB_seen vB_ruleNumbers = some (zr, z_vN, z_vB, z_vB_seen)) (A : Nat → Prop) (hAe : va_A (wX8_look cy aN qN aH qH qB aH vN vH vB vB_seen vB_ruleNumbers) sz = A) : Met l yX8_look wsX8_look ({ frames := 4, cells := 0, slots := 0, locals := 89 } : Room) (kPre D cy [.ref aN] (wX8_look cy aN qN aH qH qB aH vN vH vB vB_seen vB_ruleNumbers) sz) (kQi D cy zr A (wX8_look cy aN qN aH qH qB aH z_vN vH z_vB z_vB_seen vB_ruleNumbers)) 0 0 A := by
  refine Met.ofW (cc := cX8_look) (maxL := 1) (ret := (some .int)) (by decide) rfl ?_
  intro p e s m args below meth c s₁ B hml hv
  obtain ⟨rfl, hsz, hP, hK, hD0, hN⟩ := hv
  have hx := B.exec
  have hb := B.bytes
  have hr := B.returns
  have ht0 : ∀ w ∈ W0, w.before _ s = true := fun w h => atoms_spec (ws := wsX8_look) B.pre w (List.mem_cons_of_mem _ h)
  have hown : s.vm.findClass RX8 = some m.cls := findClass_of_methodNamed B.named
  have hlocks := B.notSynchronized
  subst hsz
  have hD : va_D A (wX8_look cy aN qN aH qH qB aH vN vH vB vB_seen vB_ruleNumbers) := by rw [← hAe]; exact hD0.self
  have hA : ∀ q : Nat, s.heap.size ≤ q → A q := fun q h => by rw [← hAe]; exact Or.inr h
  have hS : va_S A s.heap s.heap [] := va_S.rf
  have hl := lv_entry ([.ref aN]) (n := 1) (Nat.le_of_ble_eq_true rfl)
  rw [lg_entry_eq]
  generalize (lg_sl ([.ref aN]) ++ List.replicate (1 - (lg_sl ([.ref aN])).length) Slot.unset).toArray = ls at hl ⊢
  have hl : lv_has ls 1 [(0, .ref aN)] := hl
  unfold fX8_look at hok
  obtain ⟨H, hH⟩ : ∃ H, H = s.heap := ⟨_, rfl⟩
  obtain ⟨locs, hlc⟩ : ∃ x : List Loc, x = [] := ⟨_, rfl⟩
  have hP : va_P D vwCl (wX8_look cy aN qN aH qH qB aH vN vH vB vB_seen vB_ruleNumbers) H := by rw [hH]; exact hP
  have hS : va_S A s.heap H locs := by rw [hH, hlc]; exact hS
  rw [show W p l e _ s m _ below meth c s.heap [] = W p l e _ s m _ below meth c H locs from by rw [hH, hlc]]
  refine lv_aload_n hx hb dX8_look_0 rfl (lv_at hl 0 rfl) ?_
  refine va_get (D := D) (ci := 7) (v := .ref aH) (C := RX8) (T := TX8) (N := 9) hx hb ht0 niX8 hown hK hP 0 rfl rfl 5 (by decide) (ht0 _ wd522) (fun _ h9 => h9) rfl dX8_look_1 ?_
  obtain ⟨r4, hc4, hok⟩ := k_bind hok
  refine kCi (wc := (wX4_stands cy aH qH vH)) (wc2 := (wX4_stands cy aH qH vH)) (wr := [(aN, oX8 vN qN aH), (qN 4, oX0 vB qB), (qB 1, rI cy 12 vB_seen), (qB 0, rI cy 572 vB_ruleNumbers)]) (ws2 := (wX8_look cy aN qN aH qH qB aH vN vH vB vB_seen vB_ruleNumbers)) (kRunV (As := []) (rest := []) ⟨hx, hb, hml, hown, ht0⟩ (kX4_stands l D cy _ aH qH vH r4 hc4 _ rfl) (cwV 0 ht0 (gV wd577 wd462 wd463 wd9 wd464) rfl rfl rfl (by decide +kernel) ⟨Nat.le_of_ble_eq_true rfl, Nat.le_of_ble_eq_true rfl⟩) hK hN hP hD [1] rfl (by decide) 1 3 rfl rfl rfl hl.1 rfl (Nat.le_of_ble_eq_true rfl) dX8_look_4 ⟨Nat.zero_le _, Nat.zero_le _⟩) hP hD hS hA [1] [0, 2, 3, 4] rfl rfl (by decide) (by decide) [0, 4, 1, 2, 3] (by decide) rfl rfl (fun H locs hP hD hS => ?_)
  refine lv_if_ne (tgt := 16) hx hb dX8_look_7 (by decide) (fun c7 => ?_) (fun c7 => ?_)
  · have hok := k_neg c7 hok
    refine lv_aload_n hx hb dX8_look_16 rfl (lv_at hl 0 rfl) ?_
    refine lv_aload_n hx hb dX8_look_17 rfl (lv_at hl 0 rfl) ?_
    refine va_get (D := D) (ci := 7) (v := .ref (qN 4)) (C := RX8) (T := TX8) (N := 9) hx hb ht0 niX8 hown hK hP 0 rfl rfl 4 (by decide) (ht0 _ wd532) (fun _ h9 => h9) rfl dX8_look_18 ?_
    obtain ⟨⟨r21, vB_21, vB_seen_21⟩, hc21, hok⟩ := k_bind hok
    try dsimp only at hok
    refine kCi (wc := (wX0_bestLook cy (qN 4) qB vB vB_seen vB_ruleNumbers)) (wc2 := (wX0_bestLook cy (qN 4) qB vB_21 vB_seen_21 vB_ruleNumbers)) (wr := [(aN, oX8 vN qN aH), (aH, oX4 vH qH)]) (ws2 := (wX8_look cy aN qN aH qH qB aH vN vH vB_21 vB_seen_21 vB_ruleNumbers)) (kRunV (As := []) (rest := [.ref aN]) ⟨hx, hb, hml, hown, ht0⟩ (kX0_bestLook l D cy _ (qN 4) qB vB vB_seen vB_ruleNumbers r21 vB_21 vB_seen_21 hc21 _ rfl) (cwV 0 ht0 (gV wd656 wd657 wd658 wd14 wd659) rfl rfl rfl (by decide +kernel) ⟨Nat.le_of_ble_eq_true rfl, Nat.le_of_ble_eq_true rfl⟩) hK hN hP hD [2, 3, 4] rfl (by decide) 2 0 rfl rfl rfl hl.1 rfl (Nat.le_of_ble_eq_true rfl) dX8_look_21 ⟨Nat.zero_le _, Nat.zero_le _⟩) hP hD hS hA [2, 3, 4] [0, 1] rfl rfl (by decide) (by decide) [0, 1, 2, 3, 4] (by decide) rfl rfl (fun H locs hP hD hS => ?_)
    obtain ⟨⟨r24, vN_24⟩, hc24, hok⟩ := k_bind hok
    try dsimp only at hok
    refine kCi (wc := (wX8_answer cy aN qN aH aH vN)) (wc2 := (wX8_answer cy aN qN aH aH vN_24)) (wr := [(aH, oX4 vH qH), (qN 4, oX0 vB_21 qB), (qB 1, rI cy 12 vB_seen_21), (qB 0, rI cy 572 vB_ruleNumbers)]) (ws2 := (wX8_look cy aN qN aH qH qB aH vN_24 vH vB_21 vB_seen_21 vB_ruleNumbers)) (kRunV (As := [.int r21]) (rest := []) ⟨hx, hb, hml, hown, ht0⟩ (kX8_answer l D cy _ aN qN aH vN r21 r24 vN_24 hc24 _ rfl) (cwV 1 ht0 (gV wd538 wd539 wd540 wd57 wd541) rfl rfl rfl (by decide +kernel) ⟨Nat.le_of_ble_eq_true rfl, Nat.le_of_ble_eq_true rfl⟩) hK hN hP hD [0] rfl (by decide) 0 7 rfl rfl rfl hl.1 rfl (Nat.le_of_ble_eq_true rfl) dX8_look_24 ⟨Nat.zero_le _, Nat.zero_le _⟩) hP hD hS hA [0] [1, 2, 3, 4] rfl rfl (by decide) (by decide) [4, 0, 1, 2, 3] (by decide) rfl rfl (fun H locs hP hD hS => ?_)
    cases hok
    exact W.iret hx hb hr (fun t ht hW => ⟨⟨_, (), rfl, rfl, by rw [ht]; exact hP, va_K.moved hW.alike hK, hD⟩, hS.F ht⟩) hS.2.2 dX8_look_27
  · have hok := k_pos c7 hok
    refine lv_aload_n hx hb dX8_look_10 rfl (lv_at hl 0 rfl) ?_
    refine lv_iconst (v := 1) hx hb dX8_look_11 (by decide) ?_
    obtain ⟨⟨r12, vN_12⟩, hc12, hok⟩ := k_bind hok
    try dsimp only at hok
    refine kCi (wc := (wX8_refuse cy aN qN aH aH vN)) (wc2 := (wX8_refuse cy aN qN aH aH vN_12)) (wr := [(aH, oX4 vH qH), (qN 4, oX0 vB qB), (qB 1, rI cy 12 vB_seen), (qB 0, rI cy 572 vB_ruleNumbers)]) (ws2 := (wX8_look cy aN qN aH qH qB aH vN_12 vH vB vB_seen vB_ruleNumbers)) (kRunV (As := [.int 1]) (rest := []) ⟨hx, hb, hml, hown, ht0⟩ (kX8_refuse l D cy _ aN qN aH vN (1 : Int32) r12 vN_12 hc12 _ rfl) (cwV 1 ht0 (gV wd504 wd505 wd506 wd57 wd507) rfl rfl rfl (by decide +kernel) ⟨Nat.le_of_ble_eq_true rfl, Nat.le_of_ble_eq_true rfl⟩) hK hN hP hD [0] rfl (by decide) 0 7 rfl rfl rfl hl.1 rfl (Nat.le_of_ble_eq_true rfl) dX8_look_12 ⟨Nat.zero_le _, Nat.zero_le _⟩) hP hD hS hA [0] [1, 2, 3, 4] rfl rfl (by decide) (by decide) [4, 0, 1, 2, 3] (by decide) rfl rfl (fun H locs hP hD hS => ?_)
    cases hok
    exact W.iret hx hb hr (fun t ht hW => ⟨⟨_, (), rfl, rfl, by rw [ht]; exact hP, va_K.moved hW.alike hK, hD⟩, hS.F ht⟩) hS.2.2 dX8_look_15
def wsX8_lookLeaves : List Cond := .code yX8_lookLeaves cX8_lookLeaves 1 (some .int) :: W0
abbrev wX8_lookLeaves (cy : Nat → ClassId) (aN : Nat) (qN : Nat → Nat) (aH : Nat) (qH : Nat → Nat) (qB : Nat → Nat) (fvN_5 : Nat) (vN : Nat → Int32) (vH : Nat → Int32) (vB : Nat → Int32) (vB_seen : Nat → Int32) (vB_ruleNumbers : Nat → Int32) : va_W := [(aN, oX8 vN qN fvN_5), (aH, oX4 vH qH), (qN 4, oX0 vB qB), (qB 1, rI cy 12 vB_seen), (qB 0, rI cy 572 vB_ruleNumbers)]
set_option maxHeartbeats 4000000 in
set_option maxRecDepth 100000 in
theorem kX8_lookLeaves (l : Launch) (D : va_G) (cy : Nat → ClassId) (sz : Nat) (aN : Nat) (qN : Nat → Nat) (aH : Nat) (qH : Nat → Nat) (qB : Nat → Nat) (vN : Nat → Int32) (vH : Nat → Int32) (vB : Nat → Int32) (vB_seen : Nat → Int32) (vB_ruleNumbers : Nat → Int32) (zr : Int32) (z_vN : Nat → Int32) (z_vB : Nat → Int32) (z_vB_seen : Nat → Int32) (hok : fX8_lookLeaves vN vH vB vB_seen vB_ruleNumbers = some (zr, z_vN, z_vB, z_vB_seen)) (A : Nat → Prop) (hAe : va_A (wX8_lookLeaves cy aN qN aH qH qB aH vN vH vB vB_seen vB_ruleNumbers) sz = A) : Met l yX8_lookLeaves wsX8_lookLeaves ({ frames := 4, cells := 0, slots := 0, locals := 89 } : Room) (kPre D cy [.ref aN] (wX8_lookLeaves cy aN qN aH qH qB aH vN vH vB vB_seen vB_ruleNumbers) sz) (kQi D cy zr A (wX8_lookLeaves cy aN qN aH qH qB aH z_vN vH z_vB z_vB_seen vB_ruleNumbers)) 0 0 A := by
  refine Met.ofW (cc := cX8_lookLeaves) (maxL := 1) (ret := (some .int)) (by decide) rfl ?_
  intro p e s m args below meth c s₁ B hml hv
  obtain ⟨rfl, hsz, hP, hK, hD0, hN⟩ := hv
  have hx := B.exec
  have hb := B.bytes
  have hr := B.returns
  have ht0 : ∀ w ∈ W0, w.before _ s = true := fun w h => atoms_spec (ws := wsX8_lookLeaves) B.pre w (List.mem_cons_of_mem _ h)
  have hown : s.vm.findClass RX8 = some m.cls := findClass_of_methodNamed B.named
  have hlocks := B.notSynchronized
  subst hsz
  have hD : va_D A (wX8_lookLeaves cy aN qN aH qH qB aH vN vH vB vB_seen vB_ruleNumbers) := by rw [← hAe]; exact hD0.self
  have hA : ∀ q : Nat, s.heap.size ≤ q → A q := fun q h => by rw [← hAe]; exact Or.inr h
  have hS : va_S A s.heap s.heap [] := va_S.rf
  have hl := lv_entry ([.ref aN]) (n := 1) (Nat.le_of_ble_eq_true rfl)
  rw [lg_entry_eq]
  generalize (lg_sl ([.ref aN]) ++ List.replicate (1 - (lg_sl ([.ref aN])).length) Slot.unset).toArray = ls at hl ⊢
  have hl : lv_has ls 1 [(0, .ref aN)] := hl
  unfold fX8_lookLeaves at hok
  obtain ⟨H, hH⟩ : ∃ H, H = s.heap := ⟨_, rfl⟩
  obtain ⟨locs, hlc⟩ : ∃ x : List Loc, x = [] := ⟨_, rfl⟩
  have hP : va_P D vwCl (wX8_lookLeaves cy aN qN aH qH qB aH vN vH vB vB_seen vB_ruleNumbers) H := by rw [hH]; exact hP
  have hS : va_S A s.heap H locs := by rw [hH, hlc]; exact hS
  rw [show W p l e _ s m _ below meth c s.heap [] = W p l e _ s m _ below meth c H locs from by rw [hH, hlc]]
  refine lv_aload_n hx hb dX8_lookLeaves_0 rfl (lv_at hl 0 rfl) ?_
  refine va_get (D := D) (ci := 7) (v := .ref aH) (C := RX8) (T := TX8) (N := 9) hx hb ht0 niX8 hown hK hP 0 rfl rfl 5 (by decide) (ht0 _ wd522) (fun _ h9 => h9) rfl dX8_lookLeaves_1 ?_
  obtain ⟨r4, hc4, hok⟩ := k_bind hok
  refine kCi (wc := (wX4_stands cy aH qH vH)) (wc2 := (wX4_stands cy aH qH vH)) (wr := [(aN, oX8 vN qN aH), (qN 4, oX0 vB qB), (qB 1, rI cy 12 vB_seen), (qB 0, rI cy 572 vB_ruleNumbers)]) (ws2 := (wX8_lookLeaves cy aN qN aH qH qB aH vN vH vB vB_seen vB_ruleNumbers)) (kRunV (As := []) (rest := []) ⟨hx, hb, hml, hown, ht0⟩ (kX4_stands l D cy _ aH qH vH r4 hc4 _ rfl) (cwV 0 ht0 (gV wd577 wd462 wd463 wd9 wd464) rfl rfl rfl (by decide +kernel) ⟨Nat.le_of_ble_eq_true rfl, Nat.le_of_ble_eq_true rfl⟩) hK hN hP hD [1] rfl (by decide) 1 3 rfl rfl rfl hl.1 rfl (Nat.le_of_ble_eq_true rfl) dX8_lookLeaves_4 ⟨Nat.zero_le _, Nat.zero_le _⟩) hP hD hS hA [1] [0, 2, 3, 4] rfl rfl (by decide) (by decide) [0, 4, 1, 2, 3] (by decide) rfl rfl (fun H locs hP hD hS => ?_)
  refine lv_if_ne (tgt := 16) hx hb dX8_lookLeaves_7 (by decide) (fun c7 => ?_) (fun c7 => ?_)
  · have hok := k_neg c7 hok
    refine lv_aload_n hx hb dX8_lookLeaves_16 rfl (lv_at hl 0 rfl) ?_
    refine lv_aload_n hx hb dX8_lookLeaves_17 rfl (lv_at hl 0 rfl) ?_
    refine va_get (D := D) (ci := 7) (v := .ref (qN 4)) (C := RX8) (T := TX8) (N := 9) hx hb ht0 niX8 hown hK hP 0 rfl rfl 4 (by decide) (ht0 _ wd532) (fun _ h9 => h9) rfl dX8_lookLeaves_18 ?_
    obtain ⟨⟨r21, vB_21, vB_seen_21⟩, hc21, hok⟩ := k_bind hok
    try dsimp only at hok
    refine kCi (wc := (wX0_leftByLook cy (qN 4) qB vB vB_seen vB_ruleNumbers)) (wc2 := (wX0_leftByLook cy (qN 4) qB vB_21 vB_seen_21 vB_ruleNumbers)) (wr := [(aN, oX8 vN qN aH), (aH, oX4 vH qH)]) (ws2 := (wX8_lookLeaves cy aN qN aH qH qB aH vN vH vB_21 vB_seen_21 vB_ruleNumbers)) (kRunV (As := []) (rest := [.ref aN]) ⟨hx, hb, hml, hown, ht0⟩ (kX0_leftByLook l D cy _ (qN 4) qB vB vB_seen vB_ruleNumbers r21 vB_21 vB_seen_21 hc21 _ rfl) (cwV 0 ht0 (gV wd660 wd661 wd662 wd14 wd663) rfl rfl rfl (by decide +kernel) ⟨Nat.le_of_ble_eq_true rfl, Nat.le_of_ble_eq_true rfl⟩) hK hN hP hD [2, 3, 4] rfl (by decide) 2 0 rfl rfl rfl hl.1 rfl (Nat.le_of_ble_eq_true rfl) dX8_lookLeaves_21 ⟨Nat.zero_le _, Nat.zero_le _⟩) hP hD hS hA [2, 3, 4] [0, 1] rfl rfl (by decide) (by decide) [0, 1, 2, 3, 4] (by decide) rfl rfl (fun H locs hP hD hS => ?_)
    obtain ⟨⟨r24, vN_24⟩, hc24, hok⟩ := k_bind hok
    try dsimp only at hok
    refine kCi (wc := (wX8_answer cy aN qN aH aH vN)) (wc2 := (wX8_answer cy aN qN aH aH vN_24)) (wr := [(aH, oX4 vH qH), (qN 4, oX0 vB_21 qB), (qB 1, rI cy 12 vB_seen_21), (qB 0, rI cy 572 vB_ruleNumbers)]) (ws2 := (wX8_lookLeaves cy aN qN aH qH qB aH vN_24 vH vB_21 vB_seen_21 vB_ruleNumbers)) (kRunV (As := [.int r21]) (rest := []) ⟨hx, hb, hml, hown, ht0⟩ (kX8_answer l D cy _ aN qN aH vN r21 r24 vN_24 hc24 _ rfl) (cwV 1 ht0 (gV wd538 wd539 wd540 wd57 wd541) rfl rfl rfl (by decide +kernel) ⟨Nat.le_of_ble_eq_true rfl, Nat.le_of_ble_eq_true rfl⟩) hK hN hP hD [0] rfl (by decide) 0 7 rfl rfl rfl hl.1 rfl (Nat.le_of_ble_eq_true rfl) dX8_lookLeaves_24 ⟨Nat.zero_le _, Nat.zero_le _⟩) hP hD hS hA [0] [1, 2, 3, 4] rfl rfl (by decide) (by decide) [4, 0, 1, 2, 3] (by decide) rfl rfl (fun H locs hP hD hS => ?_)
    cases hok
    exact W.iret hx hb hr (fun t ht hW => ⟨⟨_, (), rfl, rfl, by rw [ht]; exact hP, va_K.moved hW.alike hK, hD⟩, hS.F ht⟩) hS.2.2 dX8_lookLeaves_27
  · have hok := k_pos c7 hok
    refine lv_aload_n hx hb dX8_lookLeaves_10 rfl (lv_at hl 0 rfl) ?_
    refine lv_iconst (v := 1) hx hb dX8_lookLeaves_11 (by decide) ?_
    obtain ⟨⟨r12, vN_12⟩, hc12, hok⟩ := k_bind hok
    try dsimp only at hok
    refine kCi (wc := (wX8_refuse cy aN qN aH aH vN)) (wc2 := (wX8_refuse cy aN qN aH aH vN_12)) (wr := [(aH, oX4 vH qH), (qN 4, oX0 vB qB), (qB 1, rI cy 12 vB_seen), (qB 0, rI cy 572 vB_ruleNumbers)]) (ws2 := (wX8_lookLeaves cy aN qN aH qH qB aH vN_12 vH vB vB_seen vB_ruleNumbers)) (kRunV (As := [.int 1]) (rest := []) ⟨hx, hb, hml, hown, ht0⟩ (kX8_refuse l D cy _ aN qN aH vN (1 : Int32) r12 vN_12 hc12 _ rfl) (cwV 1 ht0 (gV wd504 wd505 wd506 wd57 wd507) rfl rfl rfl (by decide +kernel) ⟨Nat.le_of_ble_eq_true rfl, Nat.le_of_ble_eq_true rfl⟩) hK hN hP hD [0] rfl (by decide) 0 7 rfl rfl rfl hl.1 rfl (Nat.le_of_ble_eq_true rfl) dX8_lookLeaves_12 ⟨Nat.zero_le _, Nat.zero_le _⟩) hP hD hS hA [0] [1, 2, 3, 4] rfl rfl (by decide) (by decide) [4, 0, 1, 2, 3] (by decide) rfl rfl (fun H locs hP hD hS => ?_)
    cases hok
    exact W.iret hx hb hr (fun t ht hW => ⟨⟨_, (), rfl, rfl, by rw [ht]; exact hP, va_K.moved hW.alike hK, hD⟩, hS.F ht⟩) hS.2.2 dX8_lookLeaves_15
def wsX8_whyNoHeirs : List Cond := .code yX8_whyNoHeirs cX8_whyNoHeirs 2 (some .int) :: W0
abbrev wX8_whyNoHeirs (cy : Nat → ClassId) (aN : Nat) (qN : Nat → Nat) (aH : Nat) (qH : Nat → Nat) (fvN_5 : Nat) (vN : Nat → Int32) (vH : Nat → Int32) : va_W := [(aN, oX8 vN qN fvN_5), (aH, oX4 vH qH)]
set_option maxHeartbeats 4000000 in
set_option maxRecDepth 100000 in
theorem kX8_whyNoHeirs (l : Launch) (D : va_G) (cy : Nat → ClassId) (sz : Nat) (aN : Nat) (qN : Nat → Nat) (aH : Nat) (qH : Nat → Nat) (vN : Nat → Int32) (vH : Nat → Int32) (x1 : Int32) (zr : Int32) (hok : fX8_whyNoHeirs vN vH x1 = some zr) (A : Nat → Prop) (hAe : va_A (wX8_whyNoHeirs cy aN qN aH qH aH vN vH) sz = A) : Met l yX8_whyNoHeirs wsX8_whyNoHeirs ({ frames := 1, cells := 0, slots := 0, locals := 20 } : Room) (kPre D cy [.ref aN, .int x1] (wX8_whyNoHeirs cy aN qN aH qH aH vN vH) sz) (kQi D cy zr A (wX8_whyNoHeirs cy aN qN aH qH aH vN vH)) 0 0 A := by
  refine Met.ofW (cc := cX8_whyNoHeirs) (maxL := 2) (ret := (some .int)) (by decide) rfl ?_
  intro p e s m args below meth c s₁ B hml hv
  obtain ⟨rfl, hsz, hP, hK, hD0, hN⟩ := hv
  have hx := B.exec
  have hb := B.bytes
  have hr := B.returns
  have ht0 : ∀ w ∈ W0, w.before _ s = true := fun w h => atoms_spec (ws := wsX8_whyNoHeirs) B.pre w (List.mem_cons_of_mem _ h)
  have hown : s.vm.findClass RX8 = some m.cls := findClass_of_methodNamed B.named
  have hlocks := B.notSynchronized
  subst hsz
  have hD : va_D A (wX8_whyNoHeirs cy aN qN aH qH aH vN vH) := by rw [← hAe]; exact hD0.self
  have hA : ∀ q : Nat, s.heap.size ≤ q → A q := fun q h => by rw [← hAe]; exact Or.inr h
  have hS : va_S A s.heap s.heap [] := va_S.rf
  have hl := lv_entry ([.ref aN, .int x1]) (n := 2) (Nat.le_of_ble_eq_true rfl)
  rw [lg_entry_eq]
  generalize (lg_sl ([.ref aN, .int x1]) ++ List.replicate (2 - (lg_sl ([.ref aN, .int x1])).length) Slot.unset).toArray = ls at hl ⊢
  have hl : lv_has ls 2 [(0, .ref aN), (1, .int x1)] := hl
  generalize hQe : MQ below (kQi D cy zr A (wX8_whyNoHeirs cy aN qN aH qH aH vN vH)) ([.ref aN, .int x1] : List Value).toArray s 0 0 A = Q
  have J27 : ∀ (t0_27 : Int32), ∀ (H : Heap) (locs : List Loc) (ls : Array Slot), va_P D vwCl (wX8_whyNoHeirs cy aN qN aH qH aH vN vH) H → va_D A (wX8_whyNoHeirs cy aN qN aH qH aH vN vH) → va_S A s.heap H locs → lv_has ls 2 [] → fX8_whyNoHeirs_J27 t0_27 = some zr → W p l e ({ frames := 1, cells := 0, slots := 0, locals := 20 } : Room) s m ([.ref aN, .int x1] : List Value).toArray below meth c H locs 0 0 Q (F0 m 27 ls [.int t0_27]) := by
    intro t0_27 H locs ls hP hD hS hl hok
    unfold fX8_whyNoHeirs_J27 at hok
    cases hok
    subst hQe; exact W.iret hx hb hr (fun t ht hW => ⟨⟨_, (), rfl, rfl, by rw [ht]; exact hP, va_K.moved hW.alike hK, hD⟩, hS.F ht⟩) hS.2.2 dX8_whyNoHeirs_27
  have J22 : ∀ (H : Heap) (locs : List Loc) (ls : Array Slot), va_P D vwCl (wX8_whyNoHeirs cy aN qN aH qH aH vN vH) H → va_D A (wX8_whyNoHeirs cy aN qN aH qH aH vN vH) → va_S A s.heap H locs → lv_has ls 2 [] → fX8_whyNoHeirs_J22 = some zr → W p l e ({ frames := 1, cells := 0, slots := 0, locals := 20 } : Room) s m ([.ref aN, .int x1] : List Value).toArray below meth c H locs 0 0 Q (F0 m 22 ls []) := by
    intro  H locs ls hP hD hS hl hok
    unfold fX8_whyNoHeirs_J22 at hok
    refine lv_iconst (v := 2) hx hb dX8_whyNoHeirs_22 (by decide) ?_
    refine lv_goto (tgt := 27) hx hb dX8_whyNoHeirs_23 (by decide) ?_
    exact J27 (2 : Int32) H locs ls hP hD hS (lv_sub hl [] rfl) hok
  unfold fX8_whyNoHeirs at hok
  obtain ⟨H, hH⟩ : ∃ H, H = s.heap := ⟨_, rfl⟩
  obtain ⟨locs, hlc⟩ : ∃ x : List Loc, x = [] := ⟨_, rfl⟩
  have hP : va_P D vwCl (wX8_whyNoHeirs cy aN qN aH qH aH vN vH) H := by rw [hH]; exact hP
  have hS : va_S A s.heap H locs := by rw [hH, hlc]; exact hS
  rw [show W p l e _ s m _ below meth c s.heap [] = W p l e _ s m _ below meth c H locs from by rw [hH, hlc]]
  refine lv_aload_n hx hb dX8_whyNoHeirs_0 rfl (lv_at hl 0 rfl) ?_
  refine va_get (D := D) (ci := 7) (v := .ref aH) (C := RX8) (T := TX8) (N := 9) hx hb ht0 niX8 hown hK hP 0 rfl rfl 5 (by decide) (ht0 _ wd522) (fun _ h9 => h9) rfl dX8_whyNoHeirs_1 ?_
  obtain ⟨r4, hc4, hok⟩ := k_bind hok
  refine kCi (wc := (wX4_stands cy aH qH vH)) (wc2 := (wX4_stands cy aH qH vH)) (wr := [(aN, oX8 vN qN aH)]) (ws2 := (wX8_whyNoHeirs cy aN qN aH qH aH vN vH)) (kRunV (As := []) (rest := []) ⟨hx, hb, hml, hown, ht0⟩ (kX4_stands l D cy _ aH qH vH r4 hc4 _ rfl) (cwV 0 ht0 (gV wd577 wd462 wd463 wd9 wd464) rfl rfl rfl (by decide +kernel) ⟨Nat.le_of_ble_eq_true rfl, Nat.le_of_ble_eq_true rfl⟩) hK hN hP hD [1] rfl (by decide) 1 3 rfl rfl rfl hl.1 rfl (Nat.le_of_ble_eq_true rfl) dX8_whyNoHeirs_4 ⟨Nat.zero_le _, Nat.zero_le _⟩) hP hD hS hA [1] [0] rfl rfl (by decide) (by decide) [0, 1] (by decide) rfl rfl (fun H locs hP hD hS => ?_)
  refine lv_if_ne (tgt := 12) hx hb dX8_whyNoHeirs_7 (by decide) (fun c7 => ?_) (fun c7 => ?_)
  · have hok := k_neg c7 hok
    refine lv_iload_n hx hb dX8_whyNoHeirs_12 rfl (lv_at hl 1 rfl) ?_
    refine lv_if_lt (tgt := 22) hx hb dX8_whyNoHeirs_13 (by decide) (fun c13 => ?_) (fun c13 => ?_)
    · have hok := k_pos c13 hok
      exact J22  H locs ls hP hD hS (lv_sub hl [] rfl) hok
    · have hok := k_neg c13 hok
      refine lv_iload_n hx hb dX8_whyNoHeirs_16 rfl (lv_at hl 1 rfl) ?_
      refine lv_bipush (v := 99) hx hb dX8_whyNoHeirs_17 (by decide) ?_
      refine lv_icmp_le (tgt := 26) hx hb dX8_whyNoHeirs_19 (by decide) (fun c19 => ?_) (fun c19 => ?_)
      · have hok := k_pos c19 hok
        refine lv_iconst (v := 0) hx hb dX8_whyNoHeirs_26 (by decide) ?_
        exact J27 (0 : Int32) H locs ls hP hD hS (lv_sub hl [] rfl) hok
      · have hok := k_neg c19 hok
        exact J22  H locs ls hP hD hS (lv_sub hl [] rfl) hok
  · have hok := k_pos c7 hok
    refine lv_iconst (v := 1) hx hb dX8_whyNoHeirs_10 (by decide) ?_
    cases hok
    subst hQe; exact W.iret hx hb hr (fun t ht hW => ⟨⟨_, (), rfl, rfl, by rw [ht]; exact hP, va_K.moved hW.alike hK, hD⟩, hS.F ht⟩) hS.2.2 dX8_whyNoHeirs_11
def wsX8_heir : List Cond := .code yX8_heir cX8_heir 7 (some .int) :: W0
abbrev wX8_heir (cy : Nat → ClassId) (aN : Nat) (qN : Nat → Nat) (aH : Nat) (qH : Nat → Nat) (fvN_5 : Nat) (vN : Nat → Int32) (vH : Nat → Int32) : va_W := [(aN, oX8 vN qN fvN_5), (aH, oX4 vH qH)]
set_option maxHeartbeats 4000000 in
set_option maxRecDepth 100000 in
theorem kX8_heir (l : Launch) (D : va_G) (cy : Nat → ClassId) (sz : Nat) (aN : Nat) (qN : Nat → Nat) (aH : Nat) (qH : Nat → Nat) (vN : Nat → Int32) (vH : Nat → Int32) (x1 : Int32) (x2 : Int32) (x3 : Int32) (x4 : Int32) (zr : Int32) (z_vN : Nat → Int32) (hok : fX8_heir vN vH x1 x2 x3 x4 = some (zr, z_vN)) (A : Nat → Prop) (hAe : va_A (wX8_heir cy aN qN aH qH aH vN vH) sz = A) : Met l yX8_heir wsX8_heir ({ frames := 2, cells := 0, slots := 0, locals := 41 } : Room) (kPre D cy [.ref aN, .int x1, .int x2, .int x3, .int x4] (wX8_heir cy aN qN aH qH aH vN vH) sz) (kQi D cy zr A (wX8_heir cy aN qN aH qH aH z_vN vH)) 0 0 A := by
  refine Met.ofW (cc := cX8_heir) (maxL := 7) (ret := (some .int)) (by decide) rfl ?_
  intro p e s m args below meth c s₁ B hml hv
  obtain ⟨rfl, hsz, hP, hK, hD0, hN⟩ := hv
  have hx := B.exec
  have hb := B.bytes
  have hr := B.returns
  have ht0 : ∀ w ∈ W0, w.before _ s = true := fun w h => atoms_spec (ws := wsX8_heir) B.pre w (List.mem_cons_of_mem _ h)
  have hown : s.vm.findClass RX8 = some m.cls := findClass_of_methodNamed B.named
  have hlocks := B.notSynchronized
  subst hsz
  have hD : va_D A (wX8_heir cy aN qN aH qH aH vN vH) := by rw [← hAe]; exact hD0.self
  have hA : ∀ q : Nat, s.heap.size ≤ q → A q := fun q h => by rw [← hAe]; exact Or.inr h
  have hS : va_S A s.heap s.heap [] := va_S.rf
  have hl := lv_entry ([.ref aN, .int x1, .int x2, .int x3, .int x4]) (n := 7) (Nat.le_of_ble_eq_true rfl)
  rw [lg_entry_eq]
  generalize (lg_sl ([.ref aN, .int x1, .int x2, .int x3, .int x4]) ++ List.replicate (7 - (lg_sl ([.ref aN, .int x1, .int x2, .int x3, .int x4])).length) Slot.unset).toArray = ls at hl ⊢
  have hl : lv_has ls 7 [(0, .ref aN), (1, .int x1), (2, .int x2), (3, .int x3), (4, .int x4)] := hl
  generalize hQe : MQ below (kQi D cy zr A (wX8_heir cy aN qN aH qH aH z_vN vH)) ([.ref aN, .int x1, .int x2, .int x3, .int x4] : List Value).toArray s 0 0 A = Q
  have J81 : ∀ (t0_81 : Int32) (vN_81 : Nat → Int32), ∀ (H : Heap) (locs : List Loc) (ls : Array Slot), va_P D vwCl (wX8_heir cy aN qN aH qH aH vN_81 vH) H → va_D A (wX8_heir cy aN qN aH qH aH vN_81 vH) → va_S A s.heap H locs → lv_has ls 7 [] → fX8_heir_J81 t0_81 vN_81 = some (zr, z_vN) → W p l e ({ frames := 2, cells := 0, slots := 0, locals := 41 } : Room) s m ([.ref aN, .int x1, .int x2, .int x3, .int x4] : List Value).toArray below meth c H locs 0 0 Q (F0 m 81 ls [.int t0_81]) := by
    intro t0_81 vN_81 H locs ls hP hD hS hl hok
    unfold fX8_heir_J81 at hok
    cases hok
    subst hQe; exact W.iret hx hb hr (fun t ht hW => ⟨⟨_, (), rfl, rfl, by rw [ht]; exact hP, va_K.moved hW.alike hK, hD⟩, hS.F ht⟩) hS.2.2 dX8_heir_81
  have J47 : ∀ (y6_47 : Int32), ∀ (H : Heap) (locs : List Loc) (ls : Array Slot), va_P D vwCl (wX8_heir cy aN qN aH qH aH vN vH) H → va_D A (wX8_heir cy aN qN aH qH aH vN vH) → va_S A s.heap H locs → lv_has ls 7 [(0, .ref aN), (1, .int x1), (2, .int x2), (3, .int x3), (4, .int x4), (6, .int y6_47)] → fX8_heir_J47 vN x1 x2 x3 x4 y6_47 = some (zr, z_vN) → W p l e ({ frames := 2, cells := 0, slots := 0, locals := 41 } : Room) s m ([.ref aN, .int x1, .int x2, .int x3, .int x4] : List Value).toArray below meth c H locs 0 0 Q (F0 m 47 ls []) := by
    intro y6_47 H locs ls hP hD hS hl hok
    unfold fX8_heir_J47 at hok
    refine lv_aload_n hx hb dX8_heir_47 rfl (lv_at hl 0 rfl) ?_
    refine lv_iload hx hb dX8_heir_48 (lv_at hl 5 rfl) ?_
    refine va_put (D := D) (ci := 7) (v := .int y6_47) (ty := .int) (C := RX8) (T := TX8) (N := 9) hx hb ht0 niX8 tyX8 tyX8_ok nmX8 hown hK hP hD hS 0 rfl rfl 6 (by decide) (ht0 _ wd503) (fun _ h9 => h9) rfl (by decide +kernel) rfl rfl (Nat.le_of_ble_eq_true rfl) dX8_heir_50 (fun H locs hP hD hS => ?_)
    have hP : va_P D vwCl (wX8_heir cy aN qN aH qH aH (upd vN 6 y6_47) vH) H := hP
    have hD : va_D A (wX8_heir cy aN qN aH qH aH (upd vN 6 y6_47) vH) := hD
    refine lv_iload hx hb dX8_heir_53 (lv_at hl 5 rfl) ?_
    refine lv_if_eq (tgt := 61) hx hb dX8_heir_55 (by decide) (fun c55 => ?_) (fun c55 => ?_)
    · have hok := k_pos c55 hok
      refine lv_iload hx hb dX8_heir_61 (lv_at hl 4 rfl) ?_
      refine lv_if_eq (tgt := 75) hx hb dX8_heir_63 (by decide) (fun c63 => ?_) (fun c63 => ?_)
      · have hok := k_pos c63 hok
        refine lv_iload_n hx hb dX8_heir_75 rfl (lv_at hl 1 rfl) ?_
        refine lv_iload_n hx hb dX8_heir_76 rfl (lv_at hl 2 rfl) ?_
        refine lv_iload_n hx hb dX8_heir_77 rfl (lv_at hl 3 rfl) ?_
        obtain ⟨r78, hc78, hok⟩ := k_bind hok
        refine kCi (wc := (wX2_gain cy )) (wc2 := (wX2_gain cy )) (wr := [(aN, oX8 (upd vN 6 y6_47) qN aH), (aH, oX4 vH qH)]) (ws2 := (wX8_heir cy aN qN aH qH aH (upd vN 6 y6_47) vH)) (kRunS (As := [.int x1, .int x2, .int x3]) (rest := []) ⟨hx, hb, hml, hown, ht0⟩ (kX2_gain l D cy _ x1 x2 x3 r78 hc78 _ rfl) (va_cwS 3 ht0 (gS wd664 wd67 wd68 wd69) rfl rfl rfl (by decide +kernel) ⟨Nat.le_of_ble_eq_true rfl, Nat.le_of_ble_eq_true rfl⟩) hK hN hP hD [] rfl (by decide) rfl hl.1 rfl (Nat.le_of_ble_eq_true rfl) dX8_heir_78 ⟨Nat.zero_le _, Nat.zero_le _⟩) hP hD hS hA [] [0, 1] rfl rfl (by decide) (by decide) [0, 1] (by decide) rfl rfl (fun H locs hP hD hS => ?_)
        exact J81 r78 (upd vN 6 y6_47) H locs ls hP hD hS (lv_sub hl [] rfl) hok
      · have hok := k_neg c63 hok
        refine lv_iload_n hx hb dX8_heir_66 rfl (lv_at hl 1 rfl) ?_
        refine lv_iload_n hx hb dX8_heir_67 rfl (lv_at hl 3 rfl) ?_
        refine lv_iload_n hx hb dX8_heir_68 rfl (lv_at hl 2 rfl) ?_
        obtain ⟨r69, hc69, hok⟩ := k_bind hok
        refine kCi (wc := (wX2_gain cy )) (wc2 := (wX2_gain cy )) (wr := [(aN, oX8 (upd vN 6 y6_47) qN aH), (aH, oX4 vH qH)]) (ws2 := (wX8_heir cy aN qN aH qH aH (upd vN 6 y6_47) vH)) (kRunS (As := [.int x1, .int x3, .int x2]) (rest := []) ⟨hx, hb, hml, hown, ht0⟩ (kX2_gain l D cy _ x1 x3 x2 r69 hc69 _ rfl) (va_cwS 3 ht0 (gS wd664 wd67 wd68 wd69) rfl rfl rfl (by decide +kernel) ⟨Nat.le_of_ble_eq_true rfl, Nat.le_of_ble_eq_true rfl⟩) hK hN hP hD [] rfl (by decide) rfl hl.1 rfl (Nat.le_of_ble_eq_true rfl) dX8_heir_69 ⟨Nat.zero_le _, Nat.zero_le _⟩) hP hD hS hA [] [0, 1] rfl rfl (by decide) (by decide) [0, 1] (by decide) rfl rfl (fun H locs hP hD hS => ?_)
        refine lv_goto (tgt := 81) hx hb dX8_heir_72 (by decide) ?_
        exact J81 r69 (upd vN 6 y6_47) H locs ls hP hD hS (lv_sub hl [] rfl) hok
    · have hok := k_neg c55 hok
      refine lv_bipush (v := -100) hx hb dX8_heir_58 (by decide) ?_
      cases hok
      subst hQe; exact W.iret hx hb hr (fun t ht hW => ⟨⟨_, (), rfl, rfl, by rw [ht]; exact hP, va_K.moved hW.alike hK, hD⟩, hS.F ht⟩) hS.2.2 dX8_heir_60
  have J25 : ∀ (t0_25 : Int32), ∀ (H : Heap) (locs : List Loc) (ls : Array Slot), va_P D vwCl (wX8_heir cy aN qN aH qH aH vN vH) H → va_D A (wX8_heir cy aN qN aH qH aH vN vH) → va_S A s.heap H locs → lv_has ls 7 [(0, .ref aN), (1, .int x1), (2, .int x2), (3, .int x3), (4, .int x4)] → fX8_heir_J25 vN vH x1 x2 x3 x4 t0_25 = some (zr, z_vN) → W p l e ({ frames := 2, cells := 0, slots := 0, locals := 41 } : Room) s m ([.ref aN, .int x1, .int x2, .int x3, .int x4] : List Value).toArray below meth c H locs 0 0 Q (F0 m 25 ls [.int t0_25]) := by
    intro t0_25 H locs ls hP hD hS hl hok
    unfold fX8_heir_J25 at hok
    refine lv_istore (lv' := [(5, .int t0_25), (0, .ref aN), (1, .int x1), (2, .int x2), (3, .int x3), (4, .int x4)]) hx hb dX8_heir_25 hl (by decide) rfl (fun ls hl => ?_)
    refine lv_aload_n hx hb dX8_heir_27 rfl (lv_at hl 1 rfl) ?_
    refine lv_iload_n hx hb dX8_heir_28 rfl (lv_at hl 2 rfl) ?_
    obtain ⟨r29, hc29, hok⟩ := k_bind hok
    refine kCi (wc := (wX8_whyNoHeirs cy aN qN aH qH aH vN vH)) (wc2 := (wX8_whyNoHeirs cy aN qN aH qH aH vN vH)) (wr := []) (ws2 := (wX8_heir cy aN qN aH qH aH vN vH)) (kRunV (As := [.int x1]) (rest := []) ⟨hx, hb, hml, hown, ht0⟩ (kX8_whyNoHeirs l D cy _ aN qN aH qH vN vH x1 r29 hc29 _ rfl) (cwV 1 ht0 (gV wd665 wd666 wd667 wd57 wd668) rfl rfl rfl (by decide +kernel) ⟨Nat.le_of_ble_eq_true rfl, Nat.le_of_ble_eq_true rfl⟩) hK hN hP hD [0, 1] rfl (by decide) 0 7 rfl rfl rfl hl.1 rfl (Nat.le_of_ble_eq_true rfl) dX8_heir_29 ⟨Nat.zero_le _, Nat.zero_le _⟩) hP hD hS hA [0, 1] [] rfl rfl (by decide) (by decide) [0, 1] (by decide) rfl rfl (fun H locs hP hD hS => ?_)
    refine lv_istore (lv' := [(6, .int r29), (5, .int t0_25), (0, .ref aN), (1, .int x1), (2, .int x2), (3, .int x3), (4, .int x4)]) hx hb dX8_heir_32 hl (by decide) rfl (fun ls hl => ?_)
    refine lv_iload hx hb dX8_heir_34 (lv_at hl 0 rfl) ?_
    refine lv_if_ne (tgt := 47) hx hb dX8_heir_36 (by decide) (fun c36 => ?_) (fun c36 => ?_)
    · have hok := k_neg c36 hok
      exact J47 r29 H locs ls hP hD hS (lv_sub hl [2, 3, 4, 5, 6, 0] rfl) hok
    · have hok := k_pos c36 hok
      refine lv_iload hx hb dX8_heir_39 (lv_at hl 1 rfl) ?_
      refine lv_if_ne (tgt := 47) hx hb dX8_heir_41 (by decide) (fun c41 => ?_) (fun c41 => ?_)
      · have hok := k_neg c41 hok
        exact J47 r29 H locs ls hP hD hS (lv_sub hl [2, 3, 4, 5, 6, 0] rfl) hok
      · have hok := k_pos c41 hok
        refine lv_iconst (v := 2) hx hb dX8_heir_44 (by decide) ?_
        refine lv_istore (lv' := [(6, .int 2), (5, .int t0_25), (0, .ref aN), (1, .int x1), (2, .int x2), (3, .int x3), (4, .int x4)]) hx hb dX8_heir_45 hl (by decide) rfl (fun ls hl => ?_)
        exact J47 (2 : Int32) H locs ls hP hD hS (lv_sub hl [2, 3, 4, 5, 6, 0] rfl) hok
  have J24 : ∀ (H : Heap) (locs : List Loc) (ls : Array Slot), va_P D vwCl (wX8_heir cy aN qN aH qH aH vN vH) H → va_D A (wX8_heir cy aN qN aH qH aH vN vH) → va_S A s.heap H locs → lv_has ls 7 [(0, .ref aN), (1, .int x1), (2, .int x2), (3, .int x3), (4, .int x4)] → fX8_heir_J24 vN vH x1 x2 x3 x4 = some (zr, z_vN) → W p l e ({ frames := 2, cells := 0, slots := 0, locals := 41 } : Room) s m ([.ref aN, .int x1, .int x2, .int x3, .int x4] : List Value).toArray below meth c H locs 0 0 Q (F0 m 24 ls []) := by
    intro  H locs ls hP hD hS hl hok
    unfold fX8_heir_J24 at hok
    refine lv_iconst (v := 0) hx hb dX8_heir_24 (by decide) ?_
    exact J25 (0 : Int32) H locs ls hP hD hS (lv_sub hl [0, 1, 2, 3, 4] rfl) hok
  unfold fX8_heir at hok
  obtain ⟨H, hH⟩ : ∃ H, H = s.heap := ⟨_, rfl⟩
  obtain ⟨locs, hlc⟩ : ∃ x : List Loc, x = [] := ⟨_, rfl⟩
  have hP : va_P D vwCl (wX8_heir cy aN qN aH qH aH vN vH) H := by rw [hH]; exact hP
  have hS : va_S A s.heap H locs := by rw [hH, hlc]; exact hS
  rw [show W p l e _ s m _ below meth c s.heap [] = W p l e _ s m _ below meth c H locs from by rw [hH, hlc]]
  refine lv_iload_n hx hb dX8_heir_0 rfl (lv_at hl 2 rfl) ?_
  refine lv_if_lt (tgt := 24) hx hb dX8_heir_1 (by decide) (fun c1 => ?_) (fun c1 => ?_)
  · have hok := k_pos c1 hok
    exact J24  H locs ls hP hD hS (lv_sub hl [0, 1, 2, 3, 4] rfl) hok
  · have hok := k_neg c1 hok
    refine lv_iload_n hx hb dX8_heir_4 rfl (lv_at hl 2 rfl) ?_
    refine lv_bipush (v := 6) hx hb dX8_heir_5 (by decide) ?_
    refine lv_icmp_gt (tgt := 24) hx hb dX8_heir_7 (by decide) (fun c7 => ?_) (fun c7 => ?_)
    · have hok := k_pos c7 hok
      exact J24  H locs ls hP hD hS (lv_sub hl [0, 1, 2, 3, 4] rfl) hok
    · have hok := k_neg c7 hok
      refine lv_iload_n hx hb dX8_heir_10 rfl (lv_at hl 3 rfl) ?_
      refine lv_if_lt (tgt := 24) hx hb dX8_heir_11 (by decide) (fun c11 => ?_) (fun c11 => ?_)
      · have hok := k_pos c11 hok
        exact J24  H locs ls hP hD hS (lv_sub hl [0, 1, 2, 3, 4] rfl) hok
      · have hok := k_neg c11 hok
        refine lv_iload_n hx hb dX8_heir_14 rfl (lv_at hl 3 rfl) ?_
        refine lv_bipush (v := 6) hx hb dX8_heir_15 (by decide) ?_
        refine lv_icmp_gt (tgt := 24) hx hb dX8_heir_17 (by decide) (fun c17 => ?_) (fun c17 => ?_)
        · have hok := k_pos c17 hok
          exact J24  H locs ls hP hD hS (lv_sub hl [0, 1, 2, 3, 4] rfl) hok
        · have hok := k_neg c17 hok
          refine lv_iconst (v := 1) hx hb dX8_heir_20 (by decide) ?_
          refine lv_goto (tgt := 25) hx hb dX8_heir_21 (by decide) ?_
          exact J25 (1 : Int32) H locs ls hP hD hS (lv_sub hl [0, 1, 2, 3, 4] rfl) hok
def wsX8_rests : List Cond := .code yX8_rests cX8_rests 6 (some .int) :: W0
abbrev wX8_rests (cy : Nat → ClassId) (aN : Nat) (qN : Nat → Nat) (aH : Nat) (qH : Nat → Nat) (fvN_5 : Nat) (vN : Nat → Int32) (vH : Nat → Int32) : va_W := [(aN, oX8 vN qN fvN_5), (aH, oX4 vH qH)]
set_option maxHeartbeats 4000000 in
set_option maxRecDepth 100000 in
theorem kX8_rests (l : Launch) (D : va_G) (cy : Nat → ClassId) (sz : Nat) (aN : Nat) (qN : Nat → Nat) (aH : Nat) (qH : Nat → Nat) (vN : Nat → Int32) (vH : Nat → Int32) (x1 : Int32) (zr : Int32) (z_vN : Nat → Int32) (hok : fX8_rests vN vH x1 = some (zr, z_vN)) (A : Nat → Prop) (hAe : va_A (wX8_rests cy aN qN aH qH aH vN vH) sz = A) : Met l yX8_rests wsX8_rests ({ frames := 2, cells := 0, slots := 0, locals := 48 } : Room) (kPre D cy [.ref aN, .int x1] (wX8_rests cy aN qN aH qH aH vN vH) sz) (kQi D cy zr A (wX8_rests cy aN qN aH qH aH z_vN vH)) 0 0 A := by
  refine Met.ofW (cc := cX8_rests) (maxL := 6) (ret := (some .int)) (by decide) rfl ?_
  intro p e s m args below meth c s₁ B hml hv
  obtain ⟨rfl, hsz, hP, hK, hD0, hN⟩ := hv
  have hx := B.exec
  have hb := B.bytes
  have hr := B.returns
  have ht0 : ∀ w ∈ W0, w.before _ s = true := fun w h => atoms_spec (ws := wsX8_rests) B.pre w (List.mem_cons_of_mem _ h)
  have hown : s.vm.findClass RX8 = some m.cls := findClass_of_methodNamed B.named
  have hlocks := B.notSynchronized
  subst hsz
  have hD : va_D A (wX8_rests cy aN qN aH qH aH vN vH) := by rw [← hAe]; exact hD0.self
  have hA : ∀ q : Nat, s.heap.size ≤ q → A q := fun q h => by rw [← hAe]; exact Or.inr h
  have hS : va_S A s.heap s.heap [] := va_S.rf
  have hl := lv_entry ([.ref aN, .int x1]) (n := 6) (Nat.le_of_ble_eq_true rfl)
  rw [lg_entry_eq]
  generalize (lg_sl ([.ref aN, .int x1]) ++ List.replicate (6 - (lg_sl ([.ref aN, .int x1])).length) Slot.unset).toArray = ls at hl ⊢
  have hl : lv_has ls 6 [(0, .ref aN), (1, .int x1)] := hl
  generalize hQe : MQ below (kQi D cy zr A (wX8_rests cy aN qN aH qH aH z_vN vH)) ([.ref aN, .int x1] : List Value).toArray s 0 0 A = Q
  have L21 : ∀ (fuel : Nat) (y3_21 : Int32) (y4_21 : Int32), ∀ (H : Heap) (locs : List Loc) (ls : Array Slot), va_P D vwCl (wX8_rests cy aN qN aH qH aH vN vH) H → va_D A (wX8_rests cy aN qN aH qH aH vN vH) → va_S A s.heap H locs → lv_has ls 6 [(0, .ref aN), (1, .int x1), (3, .int y3_21), (4, .int y4_21)] → lp (fX8_rests_B21 vN x1) fuel (y3_21, y4_21) = some (zr, z_vN) → W p l e ({ frames := 2, cells := 0, slots := 0, locals := 48 } : Room) s m ([.ref aN, .int x1] : List Value).toArray below meth c H locs 0 0 Q (F0 m 21 ls []) := by
    intro fuel
    induction fuel with
    | zero => intro y3_21 y4_21 H locs ls hP hD hS hl hok; exact (lp_0 hok).elim
    | succ fuel ih21 =>
      intro y3_21 y4_21 H locs ls hP hD hS hl hok
      obtain ⟨y21, hok, hL21, hR21⟩ := lp_step hok
      have L31 : ∀ (fuel : Nat) (y3_31 : Int32) (y5_31 : Int32), ∀ (H : Heap) (locs : List Loc) (ls : Array Slot), va_P D vwCl (wX8_rests cy aN qN aH qH aH vN vH) H → va_D A (wX8_rests cy aN qN aH qH aH vN vH) → va_S A s.heap H locs → lv_has ls 6 [(0, .ref aN), (1, .int x1), (3, .int y3_31), (4, .int y4_21), (5, .int y5_31)] → lp (fX8_rests_B31 x1 y4_21) fuel (y3_31, y5_31) = some y21 → W p l e ({ frames := 2, cells := 0, slots := 0, locals := 48 } : Room) s m ([.ref aN, .int x1] : List Value).toArray below meth c H locs 0 0 Q (F0 m 31 ls []) := by
        intro fuel
        induction fuel with
        | zero => intro y3_31 y5_31 H locs ls hP hD hS hl hok; exact (lp_0 hok).elim
        | succ fuel ih31 =>
          intro y3_31 y5_31 H locs ls hP hD hS hl hok
          obtain ⟨y31, hok, hL31, hR31⟩ := lp_step hok
          have J55 : ∀ (t0_55 : Int32), ∀ (H : Heap) (locs : List Loc) (ls : Array Slot), va_P D vwCl (wX8_rests cy aN qN aH qH aH vN vH) H → va_D A (wX8_rests cy aN qN aH qH aH vN vH) → va_S A s.heap H locs → lv_has ls 6 [(0, .ref aN), (1, .int x1), (4, .int y4_21), (5, .int y5_31)] → fX8_rests_J55 y3_31 y5_31 t0_55 = some y31 → W p l e ({ frames := 2, cells := 0, slots := 0, locals := 48 } : Room) s m ([.ref aN, .int x1] : List Value).toArray below meth c H locs 0 0 Q (F0 m 55 ls [.int t0_55, .int y3_31]) := by
            intro t0_55 H locs ls hP hD hS hl hok
            unfold fX8_rests_J55 at hok
            refine lv_iadd hx hb dX8_rests_55 ?_
            refine lv_istore_n (lv' := [(3, .int (y3_31 + t0_55)), (0, .ref aN), (1, .int x1), (4, .int y4_21), (5, .int y5_31)]) hx hb dX8_rests_56 rfl hl (by decide) rfl (fun ls hl => ?_)
            refine lv_iinc (v := (y5_31 + 1)) (lv' := [(5, .int (y5_31 + 1)), (3, .int (y3_31 + t0_55)), (0, .ref aN), (1, .int x1), (4, .int y4_21)]) hx hb dX8_rests_57 hl (k := 4) rfl (by first | rfl | decide) (by decide) rfl (fun ls hl => ?_)
            refine lv_goto (tgt := 31) hx hb dX8_rests_60 (by decide) ?_
            exact ih31 (y3_31 + t0_55) (y5_31 + 1) H locs ls hP hD hS (lv_sub hl [2, 3, 1, 4, 0] rfl) (hR31 _ (Option.some.inj hok).symm)
          unfold fX8_rests_B31 at hok
          try dsimp only at hok
          refine lv_iload hx hb dX8_rests_31 (lv_at hl 4 rfl) ?_
          refine lv_bipush (v := 6) hx hb dX8_rests_33 (by decide) ?_
          refine lv_icmp_gt (tgt := 63) hx hb dX8_rests_35 (by decide) (fun c35 => ?_) (fun c35 => ?_)
          · have hok := k_pos c35 hok
            obtain ⟨e31, hok, he31⟩ := ex_some hok
            have hok := hok.trans (congrArg some (hL31 _ he31))
            refine lv_iinc (v := (y4_21 + 1)) (lv' := [(4, .int (y4_21 + 1)), (0, .ref aN), (1, .int x1), (3, .int y3_31), (5, .int y5_31)]) hx hb dX8_rests_63 hl (k := 3) rfl (by first | rfl | decide) (by decide) rfl (fun ls hl => ?_)
            refine lv_goto (tgt := 21) hx hb dX8_rests_66 (by decide) ?_
            exact ih21 y3_31 (y4_21 + 1) H locs ls hP hD hS (lv_sub hl [1, 2, 3, 0] rfl) (hR21 _ (Option.some.inj hok).symm)
          · have hok := k_neg c35 hok
            refine lv_iload_n hx hb dX8_rests_38 rfl (lv_at hl 2 rfl) ?_
            refine lv_iload_n hx hb dX8_rests_39 rfl (lv_at hl 1 rfl) ?_
            refine lv_iload hx hb dX8_rests_40 (lv_at hl 3 rfl) ?_
            refine lv_iload hx hb dX8_rests_42 (lv_at hl 4 rfl) ?_
            obtain ⟨r44, hc44, hok⟩ := k_bind hok
            refine kCi (wc := (wX2_areAtRest cy )) (wc2 := (wX2_areAtRest cy )) (wr := [(aN, oX8 vN qN aH), (aH, oX4 vH qH)]) (ws2 := (wX8_rests cy aN qN aH qH aH vN vH)) (kRunS (As := [.int x1, .int y4_21, .int y5_31]) (rest := [.int y3_31]) ⟨hx, hb, hml, hown, ht0⟩ (kX2_areAtRest l D cy _ x1 y4_21 y5_31 r44 hc44 _ rfl) (va_cwS 3 ht0 (gS wd669 wd670 wd68 wd671) rfl rfl rfl (by decide +kernel) ⟨Nat.le_of_ble_eq_true rfl, Nat.le_of_ble_eq_true rfl⟩) hK hN hP hD [] rfl (by decide) rfl hl.1 rfl (Nat.le_of_ble_eq_true rfl) dX8_rests_44 ⟨Nat.zero_le _, Nat.zero_le _⟩) hP hD hS hA [] [0, 1] rfl rfl (by decide) (by decide) [0, 1] (by decide) rfl rfl (fun H locs hP hD hS => ?_)
            refine lv_if_eq (tgt := 54) hx hb dX8_rests_47 (by decide) (fun c47 => ?_) (fun c47 => ?_)
            · have hok := k_pos c47 hok
              refine lv_iconst (v := 0) hx hb dX8_rests_54 (by decide) ?_
              exact J55 (0 : Int32) H locs ls hP hD hS (lv_sub hl [0, 1, 3, 4] rfl) hok
            · have hok := k_neg c47 hok
              refine lv_iconst (v := 1) hx hb dX8_rests_50 (by decide) ?_
              refine lv_goto (tgt := 55) hx hb dX8_rests_51 (by decide) ?_
              exact J55 (1 : Int32) H locs ls hP hD hS (lv_sub hl [0, 1, 3, 4] rfl) hok
      unfold fX8_rests_B21 at hok
      try dsimp only at hok
      refine lv_iload hx hb dX8_rests_21 (lv_at hl 3 rfl) ?_
      refine lv_bipush (v := 6) hx hb dX8_rests_23 (by decide) ?_
      refine lv_icmp_gt (tgt := 69) hx hb dX8_rests_25 (by decide) (fun c25 => ?_) (fun c25 => ?_)
      · have hok := k_pos c25 hok
        obtain ⟨e21, hok, he21⟩ := ex_some hok
        have hok := hok.trans (congrArg some (hL21 _ he21))
        refine lv_aload_n hx hb dX8_rests_69 rfl (lv_at hl 0 rfl) ?_
        refine lv_iload_n hx hb dX8_rests_70 rfl (lv_at hl 2 rfl) ?_
        obtain ⟨⟨r71, vN_71⟩, hc71, hok⟩ := k_bind hok
        try dsimp only at hok
        refine kCi (wc := (wX8_answer cy aN qN aH aH vN)) (wc2 := (wX8_answer cy aN qN aH aH vN_71)) (wr := [(aH, oX4 vH qH)]) (ws2 := (wX8_rests cy aN qN aH qH aH vN_71 vH)) (kRunV (As := [.int y3_21]) (rest := []) ⟨hx, hb, hml, hown, ht0⟩ (kX8_answer l D cy _ aN qN aH vN y3_21 r71 vN_71 hc71 _ rfl) (cwV 1 ht0 (gV wd538 wd539 wd540 wd57 wd541) rfl rfl rfl (by decide +kernel) ⟨Nat.le_of_ble_eq_true rfl, Nat.le_of_ble_eq_true rfl⟩) hK hN hP hD [0] rfl (by decide) 0 7 rfl rfl rfl hl.1 rfl (Nat.le_of_ble_eq_true rfl) dX8_rests_71 ⟨Nat.zero_le _, Nat.zero_le _⟩) hP hD hS hA [0] [1] rfl rfl (by decide) (by decide) [1, 0] (by decide) rfl rfl (fun H locs hP hD hS => ?_)
        cases hok
        subst hQe; exact W.iret hx hb hr (fun t ht hW => ⟨⟨_, (), rfl, rfl, by rw [ht]; exact hP, va_K.moved hW.alike hK, hD⟩, hS.F ht⟩) hS.2.2 dX8_rests_74
      · have hok := k_neg c25 hok
        refine lv_iconst (v := 0) hx hb dX8_rests_28 (by decide) ?_
        refine lv_istore (lv' := [(5, .int 0), (0, .ref aN), (1, .int x1), (3, .int y3_21), (4, .int y4_21)]) hx hb dX8_rests_29 hl (by decide) rfl (fun ls hl => ?_)
        exact L31 5000 y3_21 (0 : Int32) H locs ls hP hD hS (lv_sub hl [1, 2, 3, 4, 0] rfl) hok
  unfold fX8_rests at hok
  obtain ⟨H, hH⟩ : ∃ H, H = s.heap := ⟨_, rfl⟩
  obtain ⟨locs, hlc⟩ : ∃ x : List Loc, x = [] := ⟨_, rfl⟩
  have hP : va_P D vwCl (wX8_rests cy aN qN aH qH aH vN vH) H := by rw [hH]; exact hP
  have hS : va_S A s.heap H locs := by rw [hH, hlc]; exact hS
  rw [show W p l e _ s m _ below meth c s.heap [] = W p l e _ s m _ below meth c H locs from by rw [hH, hlc]]
  refine lv_aload_n hx hb dX8_rests_0 rfl (lv_at hl 0 rfl) ?_
  refine lv_iload_n hx hb dX8_rests_1 rfl (lv_at hl 1 rfl) ?_
  obtain ⟨r2, hc2, hok⟩ := k_bind hok
  refine kCi (wc := (wX8_whyNoHeirs cy aN qN aH qH aH vN vH)) (wc2 := (wX8_whyNoHeirs cy aN qN aH qH aH vN vH)) (wr := []) (ws2 := (wX8_rests cy aN qN aH qH aH vN vH)) (kRunV (As := [.int x1]) (rest := []) ⟨hx, hb, hml, hown, ht0⟩ (kX8_whyNoHeirs l D cy _ aN qN aH qH vN vH x1 r2 hc2 _ rfl) (cwV 1 ht0 (gV wd665 wd666 wd667 wd57 wd668) rfl rfl rfl (by decide +kernel) ⟨Nat.le_of_ble_eq_true rfl, Nat.le_of_ble_eq_true rfl⟩) hK hN hP hD [0, 1] rfl (by decide) 0 7 rfl rfl rfl hl.1 rfl (Nat.le_of_ble_eq_true rfl) dX8_rests_2 ⟨Nat.zero_le _, Nat.zero_le _⟩) hP hD hS hA [0, 1] [] rfl rfl (by decide) (by decide) [0, 1] (by decide) rfl rfl (fun H locs hP hD hS => ?_)
  refine lv_istore_n (lv' := [(2, .int r2), (0, .ref aN), (1, .int x1)]) hx hb dX8_rests_5 rfl hl (by decide) rfl (fun ls hl => ?_)
  refine lv_iload_n hx hb dX8_rests_6 rfl (lv_at hl 0 rfl) ?_
  refine lv_if_eq (tgt := 16) hx hb dX8_rests_7 (by decide) (fun c7 => ?_) (fun c7 => ?_)
  · have hok := k_pos c7 hok
    refine lv_iconst (v := 0) hx hb dX8_rests_16 (by decide) ?_
    refine lv_istore_n (lv' := [(3, .int 0), (2, .int r2), (0, .ref aN), (1, .int x1)]) hx hb dX8_rests_17 rfl hl (by decide) rfl (fun ls hl => ?_)
    refine lv_iconst (v := 0) hx hb dX8_rests_18 (by decide) ?_
    refine lv_istore (lv' := [(4, .int 0), (3, .int 0), (2, .int r2), (0, .ref aN), (1, .int x1)]) hx hb dX8_rests_19 hl (by decide) rfl (fun ls hl => ?_)
    exact L21 5000 (0 : Int32) (0 : Int32) H locs ls hP hD hS (lv_sub hl [3, 4, 1, 0] rfl) hok
  · have hok := k_neg c7 hok
    refine lv_aload_n hx hb dX8_rests_10 rfl (lv_at hl 1 rfl) ?_
    refine lv_iload_n hx hb dX8_rests_11 rfl (lv_at hl 0 rfl) ?_
    obtain ⟨⟨r12, vN_12⟩, hc12, hok⟩ := k_bind hok
    try dsimp only at hok
    refine kCi (wc := (wX8_refuse cy aN qN aH aH vN)) (wc2 := (wX8_refuse cy aN qN aH aH vN_12)) (wr := [(aH, oX4 vH qH)]) (ws2 := (wX8_rests cy aN qN aH qH aH vN_12 vH)) (kRunV (As := [.int r2]) (rest := []) ⟨hx, hb, hml, hown, ht0⟩ (kX8_refuse l D cy _ aN qN aH vN r2 r12 vN_12 hc12 _ rfl) (cwV 1 ht0 (gV wd504 wd505 wd506 wd57 wd507) rfl rfl rfl (by decide +kernel) ⟨Nat.le_of_ble_eq_true rfl, Nat.le_of_ble_eq_true rfl⟩) hK hN hP hD [0] rfl (by decide) 0 7 rfl rfl rfl hl.1 rfl (Nat.le_of_ble_eq_true rfl) dX8_rests_12 ⟨Nat.zero_le _, Nat.zero_le _⟩) hP hD hS hA [0] [1] rfl rfl (by decide) (by decide) [1, 0] (by decide) rfl rfl (fun H locs hP hD hS => ?_)
    cases hok
    subst hQe; exact W.iret hx hb hr (fun t ht hW => ⟨⟨_, (), rfl, rfl, by rw [ht]; exact hP, va_K.moved hW.alike hK, hD⟩, hS.F ht⟩) hS.2.2 dX8_rests_15
def wsX8_rest : List Cond := .code yX8_rest cX8_rest 5 (some .int) :: W0
abbrev wX8_rest (cy : Nat → ClassId) (aN : Nat) (qN : Nat → Nat) (aH : Nat) (qH : Nat → Nat) (fvN_5 : Nat) (vN : Nat → Int32) (vH : Nat → Int32) : va_W := [(aN, oX8 vN qN fvN_5), (aH, oX4 vH qH)]
set_option maxHeartbeats 4000000 in
set_option maxRecDepth 100000 in
theorem kX8_rest (l : Launch) (D : va_G) (cy : Nat → ClassId) (sz : Nat) (aN : Nat) (qN : Nat → Nat) (aH : Nat) (qH : Nat → Nat) (vN : Nat → Int32) (vH : Nat → Int32) (x1 : Int32) (zr : Int32) (z_vN : Nat → Int32) (hok : fX8_rest vN vH x1 = some (zr, z_vN)) (A : Nat → Prop) (hAe : va_A (wX8_rest cy aN qN aH qH aH vN vH) sz = A) : Met l yX8_rest wsX8_rest ({ frames := 2, cells := 0, slots := 0, locals := 48 } : Room) (kPre D cy [.ref aN, .int x1] (wX8_rest cy aN qN aH qH aH vN vH) sz) (kQi D cy zr A (wX8_rest cy aN qN aH qH aH z_vN vH)) 0 0 A := by
  refine Met.ofW (cc := cX8_rest) (maxL := 5) (ret := (some .int)) (by decide) rfl ?_
  intro p e s m args below meth c s₁ B hml hv
  obtain ⟨rfl, hsz, hP, hK, hD0, hN⟩ := hv
  have hx := B.exec
  have hb := B.bytes
  have hr := B.returns
  have ht0 : ∀ w ∈ W0, w.before _ s = true := fun w h => atoms_spec (ws := wsX8_rest) B.pre w (List.mem_cons_of_mem _ h)
  have hown : s.vm.findClass RX8 = some m.cls := findClass_of_methodNamed B.named
  have hlocks := B.notSynchronized
  subst hsz
  have hD : va_D A (wX8_rest cy aN qN aH qH aH vN vH) := by rw [← hAe]; exact hD0.self
  have hA : ∀ q : Nat, s.heap.size ≤ q → A q := fun q h => by rw [← hAe]; exact Or.inr h
  have hS : va_S A s.heap s.heap [] := va_S.rf
  have hl := lv_entry ([.ref aN, .int x1]) (n := 5) (Nat.le_of_ble_eq_true rfl)
  rw [lg_entry_eq]
  generalize (lg_sl ([.ref aN, .int x1]) ++ List.replicate (5 - (lg_sl ([.ref aN, .int x1])).length) Slot.unset).toArray = ls at hl ⊢
  have hl : lv_has ls 5 [(0, .ref aN), (1, .int x1)] := hl
  generalize hQe : MQ below (kQi D cy zr A (wX8_rest cy aN qN aH qH aH z_vN vH)) ([.ref aN, .int x1] : List Value).toArray s 0 0 A = Q
  have L18 : ∀ (fuel : Nat) (y3_18 : Int32), ∀ (H : Heap) (locs : List Loc) (ls : Array Slot), va_P D vwCl (wX8_rest cy aN qN aH qH aH vN vH) H → va_D A (wX8_rest cy aN qN aH qH aH vN vH) → va_S A s.heap H locs → lv_has ls 5 [(0, .ref aN), (1, .int x1), (3, .int y3_18)] → lp (fX8_rest_B18 vN x1) fuel y3_18 = some (zr, z_vN) → W p l e ({ frames := 2, cells := 0, slots := 0, locals := 48 } : Room) s m ([.ref aN, .int x1] : List Value).toArray below meth c H locs 0 0 Q (F0 m 18 ls []) := by
    intro fuel
    induction fuel with
    | zero => intro y3_18 H locs ls hP hD hS hl hok; exact (lp_0 hok).elim
    | succ fuel ih18 =>
      intro y3_18 H locs ls hP hD hS hl hok
      obtain ⟨y18, hok, hL18, hR18⟩ := lp_step hok
      have L27 : ∀ (fuel : Nat) (y4_27 : Int32), ∀ (H : Heap) (locs : List Loc) (ls : Array Slot), va_P D vwCl (wX8_rest cy aN qN aH qH aH vN vH) H → va_D A (wX8_rest cy aN qN aH qH aH vN vH) → va_S A s.heap H locs → lv_has ls 5 [(0, .ref aN), (1, .int x1), (3, .int y3_18), (4, .int y4_27)] → lp (fX8_rest_B27 vN x1 y3_18) fuel y4_27 = some y18 → W p l e ({ frames := 2, cells := 0, slots := 0, locals := 48 } : Room) s m ([.ref aN, .int x1] : List Value).toArray below meth c H locs 0 0 Q (F0 m 27 ls []) := by
        intro fuel
        induction fuel with
        | zero => intro y4_27 H locs ls hP hD hS hl hok; exact (lp_0 hok).elim
        | succ fuel ih27 =>
          intro y4_27 H locs ls hP hD hS hl hok
          obtain ⟨y27, hok, hL27, hR27⟩ := lp_step hok
          unfold fX8_rest_B27 at hok
          refine lv_iload hx hb dX8_rest_27 (lv_at hl 3 rfl) ?_
          refine lv_bipush (v := 6) hx hb dX8_rest_29 (by decide) ?_
          refine lv_icmp_gt (tgt := 62) hx hb dX8_rest_31 (by decide) (fun c31 => ?_) (fun c31 => ?_)
          · have hok := k_pos c31 hok
            obtain ⟨e27, hok, he27⟩ := ex_some hok
            have hok := hok.trans (congrArg some (hL27 _ he27))
            refine lv_iinc (v := (y3_18 + 1)) (lv' := [(3, .int (y3_18 + 1)), (0, .ref aN), (1, .int x1), (4, .int y4_27)]) hx hb dX8_rest_62 hl (k := 2) rfl (by first | rfl | decide) (by decide) rfl (fun ls hl => ?_)
            refine lv_goto (tgt := 18) hx hb dX8_rest_65 (by decide) ?_
            exact ih18 (y3_18 + 1) H locs ls hP hD hS (lv_sub hl [1, 2, 0] rfl) (hR18 _ (Option.some.inj hok).symm)
          · have hok := k_neg c31 hok
            refine lv_iload_n hx hb dX8_rest_34 rfl (lv_at hl 1 rfl) ?_
            refine lv_iload_n hx hb dX8_rest_35 rfl (lv_at hl 2 rfl) ?_
            refine lv_iload hx hb dX8_rest_36 (lv_at hl 3 rfl) ?_
            obtain ⟨r38, hc38, hok⟩ := k_bind hok
            refine kCi (wc := (wX2_areAtRest cy )) (wc2 := (wX2_areAtRest cy )) (wr := [(aN, oX8 vN qN aH), (aH, oX4 vH qH)]) (ws2 := (wX8_rest cy aN qN aH qH aH vN vH)) (kRunS (As := [.int x1, .int y3_18, .int y4_27]) (rest := []) ⟨hx, hb, hml, hown, ht0⟩ (kX2_areAtRest l D cy _ x1 y3_18 y4_27 r38 hc38 _ rfl) (va_cwS 3 ht0 (gS wd669 wd670 wd68 wd671) rfl rfl rfl (by decide +kernel) ⟨Nat.le_of_ble_eq_true rfl, Nat.le_of_ble_eq_true rfl⟩) hK hN hP hD [] rfl (by decide) rfl hl.1 rfl (Nat.le_of_ble_eq_true rfl) dX8_rest_38 ⟨Nat.zero_le _, Nat.zero_le _⟩) hP hD hS hA [] [0, 1] rfl rfl (by decide) (by decide) [0, 1] (by decide) rfl rfl (fun H locs hP hD hS => ?_)
            refine lv_if_eq (tgt := 56) hx hb dX8_rest_41 (by decide) (fun c41 => ?_) (fun c41 => ?_)
            · have hok := k_pos c41 hok
              refine lv_iinc (v := (y4_27 + 1)) (lv' := [(4, .int (y4_27 + 1)), (0, .ref aN), (1, .int x1), (3, .int y3_18)]) hx hb dX8_rest_56 hl (k := 3) rfl (by first | rfl | decide) (by decide) rfl (fun ls hl => ?_)
              refine lv_goto (tgt := 27) hx hb dX8_rest_59 (by decide) ?_
              exact ih27 (y4_27 + 1) H locs ls hP hD hS (lv_sub hl [1, 2, 3, 0] rfl) (hR27 _ (Option.some.inj hok).symm)
            · have hok := k_neg c41 hok
              obtain ⟨e27, hok, he27⟩ := ex_some hok
              have hok := hok.trans (congrArg some (hL27 _ he27))
              obtain ⟨e18, hok, he18⟩ := ex_some hok
              have hok := hok.trans (congrArg some (hL18 _ he18))
              refine lv_aload_n hx hb dX8_rest_44 rfl (lv_at hl 0 rfl) ?_
              refine lv_bipush (v := 10) hx hb dX8_rest_45 (by decide) ?_
              refine lv_iload_n hx hb dX8_rest_47 rfl (lv_at hl 2 rfl) ?_
              refine lv_imul hx hb dX8_rest_48 ?_
              refine lv_iload hx hb dX8_rest_49 (lv_at hl 3 rfl) ?_
              refine lv_iadd hx hb dX8_rest_51 ?_
              obtain ⟨⟨r52, vN_52⟩, hc52, hok⟩ := k_bind hok
              try dsimp only at hok
              refine kCi (wc := (wX8_answer cy aN qN aH aH vN)) (wc2 := (wX8_answer cy aN qN aH aH vN_52)) (wr := [(aH, oX4 vH qH)]) (ws2 := (wX8_rest cy aN qN aH qH aH vN_52 vH)) (kRunV (As := [.int (((10 : Int32) * y3_18) + y4_27)]) (rest := []) ⟨hx, hb, hml, hown, ht0⟩ (kX8_answer l D cy _ aN qN aH vN (((10 : Int32) * y3_18) + y4_27) r52 vN_52 hc52 _ rfl) (cwV 1 ht0 (gV wd538 wd539 wd540 wd57 wd541) rfl rfl rfl (by decide +kernel) ⟨Nat.le_of_ble_eq_true rfl, Nat.le_of_ble_eq_true rfl⟩) hK hN hP hD [0] rfl (by decide) 0 7 rfl rfl rfl hl.1 rfl (Nat.le_of_ble_eq_true rfl) dX8_rest_52 ⟨Nat.zero_le _, Nat.zero_le _⟩) hP hD hS hA [0] [1] rfl rfl (by decide) (by decide) [1, 0] (by decide) rfl rfl (fun H locs hP hD hS => ?_)
              cases hok
              subst hQe; exact W.iret hx hb hr (fun t ht hW => ⟨⟨_, (), rfl, rfl, by rw [ht]; exact hP, va_K.moved hW.alike hK, hD⟩, hS.F ht⟩) hS.2.2 dX8_rest_55
      unfold fX8_rest_B18 at hok
      refine lv_iload_n hx hb dX8_rest_18 rfl (lv_at hl 2 rfl) ?_
      refine lv_bipush (v := 6) hx hb dX8_rest_19 (by decide) ?_
      refine lv_icmp_gt (tgt := 68) hx hb dX8_rest_21 (by decide) (fun c21 => ?_) (fun c21 => ?_)
      · have hok := k_pos c21 hok
        obtain ⟨e18, hok, he18⟩ := ex_some hok
        have hok := hok.trans (congrArg some (hL18 _ he18))
        refine lv_aload_n hx hb dX8_rest_68 rfl (lv_at hl 0 rfl) ?_
        refine lv_bipush (v := -2) hx hb dX8_rest_69 (by decide) ?_
        obtain ⟨⟨r71, vN_71⟩, hc71, hok⟩ := k_bind hok
        try dsimp only at hok
        refine kCi (wc := (wX8_answer cy aN qN aH aH vN)) (wc2 := (wX8_answer cy aN qN aH aH vN_71)) (wr := [(aH, oX4 vH qH)]) (ws2 := (wX8_rest cy aN qN aH qH aH vN_71 vH)) (kRunV (As := [.int (-2)]) (rest := []) ⟨hx, hb, hml, hown, ht0⟩ (kX8_answer l D cy _ aN qN aH vN (-2 : Int32) r71 vN_71 hc71 _ rfl) (cwV 1 ht0 (gV wd538 wd539 wd540 wd57 wd541) rfl rfl rfl (by decide +kernel) ⟨Nat.le_of_ble_eq_true rfl, Nat.le_of_ble_eq_true rfl⟩) hK hN hP hD [0] rfl (by decide) 0 7 rfl rfl rfl hl.1 rfl (Nat.le_of_ble_eq_true rfl) dX8_rest_71 ⟨Nat.zero_le _, Nat.zero_le _⟩) hP hD hS hA [0] [1] rfl rfl (by decide) (by decide) [1, 0] (by decide) rfl rfl (fun H locs hP hD hS => ?_)
        cases hok
        subst hQe; exact W.iret hx hb hr (fun t ht hW => ⟨⟨_, (), rfl, rfl, by rw [ht]; exact hP, va_K.moved hW.alike hK, hD⟩, hS.F ht⟩) hS.2.2 dX8_rest_74
      · have hok := k_neg c21 hok
        refine lv_iconst (v := 0) hx hb dX8_rest_24 (by decide) ?_
        refine lv_istore (lv' := [(4, .int 0), (0, .ref aN), (1, .int x1), (3, .int y3_18)]) hx hb dX8_rest_25 hl (by decide) rfl (fun ls hl => ?_)
        exact L27 5000 (0 : Int32) H locs ls hP hD hS (lv_sub hl [1, 2, 3, 0] rfl) hok
  unfold fX8_rest at hok
  obtain ⟨H, hH⟩ : ∃ H, H = s.heap := ⟨_, rfl⟩
  obtain ⟨locs, hlc⟩ : ∃ x : List Loc, x = [] := ⟨_, rfl⟩
  have hP : va_P D vwCl (wX8_rest cy aN qN aH qH aH vN vH) H := by rw [hH]; exact hP
  have hS : va_S A s.heap H locs := by rw [hH, hlc]; exact hS
  rw [show W p l e _ s m _ below meth c s.heap [] = W p l e _ s m _ below meth c H locs from by rw [hH, hlc]]
  refine lv_aload_n hx hb dX8_rest_0 rfl (lv_at hl 0 rfl) ?_
  refine lv_iload_n hx hb dX8_rest_1 rfl (lv_at hl 1 rfl) ?_
  obtain ⟨r2, hc2, hok⟩ := k_bind hok
  refine kCi (wc := (wX8_whyNoHeirs cy aN qN aH qH aH vN vH)) (wc2 := (wX8_whyNoHeirs cy aN qN aH qH aH vN vH)) (wr := []) (ws2 := (wX8_rest cy aN qN aH qH aH vN vH)) (kRunV (As := [.int x1]) (rest := []) ⟨hx, hb, hml, hown, ht0⟩ (kX8_whyNoHeirs l D cy _ aN qN aH qH vN vH x1 r2 hc2 _ rfl) (cwV 1 ht0 (gV wd665 wd666 wd667 wd57 wd668) rfl rfl rfl (by decide +kernel) ⟨Nat.le_of_ble_eq_true rfl, Nat.le_of_ble_eq_true rfl⟩) hK hN hP hD [0, 1] rfl (by decide) 0 7 rfl rfl rfl hl.1 rfl (Nat.le_of_ble_eq_true rfl) dX8_rest_2 ⟨Nat.zero_le _, Nat.zero_le _⟩) hP hD hS hA [0, 1] [] rfl rfl (by decide) (by decide) [0, 1] (by decide) rfl rfl (fun H locs hP hD hS => ?_)
  refine lv_istore_n (lv' := [(2, .int r2), (0, .ref aN), (1, .int x1)]) hx hb dX8_rest_5 rfl hl (by decide) rfl (fun ls hl => ?_)
  refine lv_iload_n hx hb dX8_rest_6 rfl (lv_at hl 0 rfl) ?_
  refine lv_if_eq (tgt := 16) hx hb dX8_rest_7 (by decide) (fun c7 => ?_) (fun c7 => ?_)
  · have hok := k_pos c7 hok
    refine lv_iconst (v := 0) hx hb dX8_rest_16 (by decide) ?_
    refine lv_istore_n (lv' := [(3, .int 0), (2, .int r2), (0, .ref aN), (1, .int x1)]) hx hb dX8_rest_17 rfl hl (by decide) rfl (fun ls hl => ?_)
    exact L18 5000 (0 : Int32) H locs ls hP hD hS (lv_sub hl [2, 3, 0] rfl) hok
  · have hok := k_neg c7 hok
    refine lv_aload_n hx hb dX8_rest_10 rfl (lv_at hl 1 rfl) ?_
    refine lv_iload_n hx hb dX8_rest_11 rfl (lv_at hl 0 rfl) ?_
    obtain ⟨⟨r12, vN_12⟩, hc12, hok⟩ := k_bind hok
    try dsimp only at hok
    refine kCi (wc := (wX8_refuse cy aN qN aH aH vN)) (wc2 := (wX8_refuse cy aN qN aH aH vN_12)) (wr := [(aH, oX4 vH qH)]) (ws2 := (wX8_rest cy aN qN aH qH aH vN_12 vH)) (kRunV (As := [.int r2]) (rest := []) ⟨hx, hb, hml, hown, ht0⟩ (kX8_refuse l D cy _ aN qN aH vN r2 r12 vN_12 hc12 _ rfl) (cwV 1 ht0 (gV wd504 wd505 wd506 wd57 wd507) rfl rfl rfl (by decide +kernel) ⟨Nat.le_of_ble_eq_true rfl, Nat.le_of_ble_eq_true rfl⟩) hK hN hP hD [0] rfl (by decide) 0 7 rfl rfl rfl hl.1 rfl (Nat.le_of_ble_eq_true rfl) dX8_rest_12 ⟨Nat.zero_le _, Nat.zero_le _⟩) hP hD hS hA [0] [1] rfl rfl (by decide) (by decide) [1, 0] (by decide) rfl rfl (fun H locs hP hD hS => ?_)
    cases hok
    subst hQe; exact W.iret hx hb hr (fun t ht hW => ⟨⟨_, (), rfl, rfl, by rw [ht]; exact hP, va_K.moved hW.alike hK, hD⟩, hS.F ht⟩) hS.2.2 dX8_rest_15
def wsX8_areDampNumbers : List Cond := .code yX8_areDampNumbers cX8_areDampNumbers 2 (some .boolean) :: W0
abbrev wX8_areDampNumbers (cy : Nat → ClassId)  : va_W := []
set_option maxHeartbeats 4000000 in
set_option maxRecDepth 100000 in
theorem kX8_areDampNumbers (l : Launch) (D : va_G) (cy : Nat → ClassId) (sz : Nat) (x0 : Int32) (x1 : Int32) (zr : Int32) (hok : fX8_areDampNumbers x0 x1 = some zr) (A : Nat → Prop) (hAe : va_A (wX8_areDampNumbers cy ) sz = A) : Met l yX8_areDampNumbers wsX8_areDampNumbers ({ frames := 0, cells := 0, slots := 0, locals := 0 } : Room) (kPre D cy [.int x0, .int x1] (wX8_areDampNumbers cy ) sz) (kQi D cy zr A (wX8_areDampNumbers cy )) 0 0 A := by
  refine Met.ofW (cc := cX8_areDampNumbers) (maxL := 2) (ret := (some .boolean)) (by decide) rfl ?_
  intro p e s m args below meth c s₁ B hml hv
  obtain ⟨rfl, hsz, hP, hK, hD0, hN⟩ := hv
  have hx := B.exec
  have hb := B.bytes
  have hr := B.returns
  have ht0 : ∀ w ∈ W0, w.before _ s = true := fun w h => atoms_spec (ws := wsX8_areDampNumbers) B.pre w (List.mem_cons_of_mem _ h)
  have hown : s.vm.findClass RX8 = some m.cls := findClass_of_methodNamed B.named
  have hlocks := B.notSynchronized
  subst hsz
  have hD : va_D A (wX8_areDampNumbers cy ) := by rw [← hAe]; exact hD0.self
  have hA : ∀ q : Nat, s.heap.size ≤ q → A q := fun q h => by rw [← hAe]; exact Or.inr h
  have hS : va_S A s.heap s.heap [] := va_S.rf
  have hl := lv_entry ([.int x0, .int x1]) (n := 2) (Nat.le_of_ble_eq_true rfl)
  rw [lg_entry_eq]
  generalize (lg_sl ([.int x0, .int x1]) ++ List.replicate (2 - (lg_sl ([.int x0, .int x1])).length) Slot.unset).toArray = ls at hl ⊢
  have hl : lv_has ls 2 [(0, .int x0), (1, .int x1)] := hl
  generalize hQe : MQ below (kQi D cy zr A (wX8_areDampNumbers cy )) ([.int x0, .int x1] : List Value).toArray s 0 0 A = Q
  have J26 : ∀ (t0_26 : Int32), ∀ (H : Heap) (locs : List Loc) (ls : Array Slot), va_P D vwCl (wX8_areDampNumbers cy ) H → va_D A (wX8_areDampNumbers cy ) → va_S A s.heap H locs → lv_has ls 2 [] → fX8_areDampNumbers_J26 t0_26 = some zr → W p l e ({ frames := 0, cells := 0, slots := 0, locals := 0 } : Room) s m ([.int x0, .int x1] : List Value).toArray below meth c H locs 0 0 Q (F0 m 26 ls [.int t0_26]) := by
    intro t0_26 H locs ls hP hD hS hl hok
    unfold fX8_areDampNumbers_J26 at hok
    obtain ⟨g26, hok⟩ := gd_some hok
    cases hok
    subst hQe; exact W.zret hx hb hr (isB_nar g26) (fun t ht hW => ⟨⟨_, (), rfl, rfl, by rw [ht]; exact hP, va_K.moved hW.alike hK, hD⟩, hS.F ht⟩) hS.2.2 dX8_areDampNumbers_26
  have J25 : ∀ (H : Heap) (locs : List Loc) (ls : Array Slot), va_P D vwCl (wX8_areDampNumbers cy ) H → va_D A (wX8_areDampNumbers cy ) → va_S A s.heap H locs → lv_has ls 2 [] → fX8_areDampNumbers_J25 = some zr → W p l e ({ frames := 0, cells := 0, slots := 0, locals := 0 } : Room) s m ([.int x0, .int x1] : List Value).toArray below meth c H locs 0 0 Q (F0 m 25 ls []) := by
    intro  H locs ls hP hD hS hl hok
    unfold fX8_areDampNumbers_J25 at hok
    refine lv_iconst (v := 0) hx hb dX8_areDampNumbers_25 (by decide) ?_
    exact J26 (0 : Int32) H locs ls hP hD hS (lv_sub hl [] rfl) hok
  unfold fX8_areDampNumbers at hok
  obtain ⟨H, hH⟩ : ∃ H, H = s.heap := ⟨_, rfl⟩
  obtain ⟨locs, hlc⟩ : ∃ x : List Loc, x = [] := ⟨_, rfl⟩
  have hP : va_P D vwCl (wX8_areDampNumbers cy ) H := by rw [hH]; exact hP
  have hS : va_S A s.heap H locs := by rw [hH, hlc]; exact hS
  rw [show W p l e _ s m _ below meth c s.heap [] = W p l e _ s m _ below meth c H locs from by rw [hH, hlc]]
  refine lv_iload_n hx hb dX8_areDampNumbers_0 rfl (lv_at hl 0 rfl) ?_
  refine lv_if_lt (tgt := 25) hx hb dX8_areDampNumbers_1 (by decide) (fun c1 => ?_) (fun c1 => ?_)
  · have hok := k_pos c1 hok
    exact J25  H locs ls hP hD hS (lv_sub hl [] rfl) hok
  · have hok := k_neg c1 hok
    refine lv_iload_n hx hb dX8_areDampNumbers_4 rfl (lv_at hl 0 rfl) ?_
    refine lv_ldcw (v := 65536) hx hb hown (ht0 _ wd672) dX8_areDampNumbers_5 ?_
    refine lv_icmp_gt (tgt := 25) hx hb dX8_areDampNumbers_8 (by decide) (fun c8 => ?_) (fun c8 => ?_)
    · have hok := k_pos c8 hok
      exact J25  H locs ls hP hD hS (lv_sub hl [] rfl) hok
    · have hok := k_neg c8 hok
      refine lv_iload_n hx hb dX8_areDampNumbers_11 rfl (lv_at hl 1 rfl) ?_
      refine lv_if_lt (tgt := 25) hx hb dX8_areDampNumbers_12 (by decide) (fun c12 => ?_) (fun c12 => ?_)
      · have hok := k_pos c12 hok
        exact J25  H locs ls hP hD hS (lv_sub hl [] rfl) hok
      · have hok := k_neg c12 hok
        refine lv_iload_n hx hb dX8_areDampNumbers_15 rfl (lv_at hl 1 rfl) ?_
        refine lv_bipush (v := 60) hx hb dX8_areDampNumbers_16 (by decide) ?_
        refine lv_icmp_gt (tgt := 25) hx hb dX8_areDampNumbers_18 (by decide) (fun c18 => ?_) (fun c18 => ?_)
        · have hok := k_pos c18 hok
          exact J25  H locs ls hP hD hS (lv_sub hl [] rfl) hok
        · have hok := k_neg c18 hok
          refine lv_iconst (v := 1) hx hb dX8_areDampNumbers_21 (by decide) ?_
          refine lv_goto (tgt := 26) hx hb dX8_areDampNumbers_22 (by decide) ?_
          exact J26 (1 : Int32) H locs ls hP hD hS (lv_sub hl [] rfl) hok
