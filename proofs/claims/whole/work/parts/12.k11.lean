def wsX8_behind : List Cond := .code yX8_behind cX8_behind 3 (some .int) :: W0
abbrev wX8_behind (cy : Nat → ClassId) (aN : Nat) (qN : Nat → Nat) (aH : Nat) (qH : Nat → Nat) (qW : Nat → Nat) (aH0 : Nat) (qD : Nat → Nat) (fvN_5 : Nat) (fvW_4 : Nat) (vN : Nat → Int32) (vH : Nat → Int32) (vW : Nat → Int32) (vD : Nat → Int32) (vD_now : Nat → Int32) (vW_who : Nat → Int32) (vH_kinds : Nat → Int32) (vW_cells : Nat → Int32) (vH_sorts : Nat → Int32) (vH_next : Nat → Int32) (vW_inFront : Nat → Int32) (vH_sizes : Nat → Int32) (vH_width : Nat → Int32) : va_W := [(aN, oX8 vN qN fvN_5), (aH, oX4 vH qH), (qN 2, oX6 vW qW fvW_4), (qN 1, oX1 vD qD), (qD 0, rI cy 9 vD_now), (qW 1, rI cy 36 vW_who), (qH 14, rI cy 7 vH_kinds), (qW 0, rI cy 7 vW_cells), (qH 8, rI cy 4 vH_sorts), (qH 10, rI cy 36 vH_next), (qW 2, rI cy 7 vW_inFront), (qH 15, rI cy 7 vH_sizes), (qH 11, rI cy 36 vH_width)]
set_option maxHeartbeats 4000000 in
set_option maxRecDepth 100000 in
theorem kX8_behind (l : Launch) (D : va_G) (cy : Nat → ClassId) (sz : Nat) (aN : Nat) (qN : Nat → Nat) (aH : Nat) (qH : Nat → Nat) (qW : Nat → Nat) (aH0 : Nat) (qD : Nat → Nat) (vN : Nat → Int32) (vH : Nat → Int32) (vW : Nat → Int32) (vD : Nat → Int32) (vD_now : Nat → Int32) (vW_who : Nat → Int32) (vH_kinds : Nat → Int32) (vW_cells : Nat → Int32) (vH_sorts : Nat → Int32) (vH_next : Nat → Int32) (vW_inFront : Nat → Int32) (vH_sizes : Nat → Int32) (vH_width : Nat → Int32) (x1 : Int32) (x2 : Int32) (zr : Int32) (z_vN : Nat → Int32) (z_vW : Nat → Int32) (z_vW_who : Nat → Int32) (z_vW_cells : Nat → Int32) (z_vW_inFront : Nat → Int32) (z_aH0 : Nat) (hok : fX8_behind aH aH0 vN vH vW vD vD_now vW_who vH_kinds vW_cells vH_sorts vH_next vW_inFront vH_sizes vH_width x1 x2 = some (zr, z_vN, z_vW, z_vW_who, z_vW_cells, z_vW_inFront, z_aH0)) (A : Nat → Prop) (hAe : va_A (wX8_behind cy aN qN aH qH qW aH0 qD aH aH0 vN vH vW vD vD_now vW_who vH_kinds vW_cells vH_sorts vH_next vW_inFront vH_sizes vH_width) sz = A) : Met l yX8_behind wsX8_behind ({ frames := 4, cells := 0, slots := 0, locals := 96 } : Room) (kPre D cy [.ref aN, .int x1, .int x2] (wX8_behind cy aN qN aH qH qW aH0 qD aH aH0 vN vH vW vD vD_now vW_who vH_kinds vW_cells vH_sorts vH_next vW_inFront vH_sizes vH_width) sz) (kQi D cy zr A (wX8_behind cy aN qN aH qH qW aH0 qD aH z_aH0 z_vN vH z_vW vD vD_now z_vW_who vH_kinds z_vW_cells vH_sorts vH_next z_vW_inFront vH_sizes vH_width)) 0 0 A := by
  refine Met.ofW (cc := cX8_behind) (maxL := 3) (ret := (some .int)) (by decide) rfl ?_
  intro p e s m args below meth c s₁ B hml hv
  obtain ⟨rfl, hsz, hP, hK, hD0, hN⟩ := hv
  have hx := B.exec
  have hb := B.bytes
  have hr := B.returns
  have ht0 : ∀ w ∈ W0, w.before _ s = true := fun w h => atoms_spec (ws := wsX8_behind) B.pre w (List.mem_cons_of_mem _ h)
  have hown : s.vm.findClass RX8 = some m.cls := findClass_of_methodNamed B.named
  have hlocks := B.notSynchronized
  subst hsz
  have hD : va_D A (wX8_behind cy aN qN aH qH qW aH0 qD aH aH0 vN vH vW vD vD_now vW_who vH_kinds vW_cells vH_sorts vH_next vW_inFront vH_sizes vH_width) := by rw [← hAe]; exact hD0.self
  have hA : ∀ q : Nat, s.heap.size ≤ q → A q := fun q h => by rw [← hAe]; exact Or.inr h
  have hS : va_S A s.heap s.heap [] := va_S.rf
  have hl := lv_entry ([.ref aN, .int x1, .int x2]) (n := 3) (Nat.le_of_ble_eq_true rfl)
  rw [lg_entry_eq]
  generalize (lg_sl ([.ref aN, .int x1, .int x2]) ++ List.replicate (3 - (lg_sl ([.ref aN, .int x1, .int x2])).length) Slot.unset).toArray = ls at hl ⊢
  have hl : lv_has ls 3 [(0, .ref aN), (1, .int x1), (2, .int x2)] := hl
  generalize hQe : MQ below (kQi D cy zr A (wX8_behind cy aN qN aH qH qW aH0 qD aH z_aH0 z_vN vH z_vW vD vD_now z_vW_who vH_kinds z_vW_cells vH_sorts vH_next z_vW_inFront vH_sizes vH_width)) ([.ref aN, .int x1, .int x2] : List Value).toArray s 0 0 A = Q
  have J28 : ∀ (H : Heap) (locs : List Loc) (ls : Array Slot), va_P D vwCl (wX8_behind cy aN qN aH qH qW aH0 qD aH aH0 vN vH vW vD vD_now vW_who vH_kinds vW_cells vH_sorts vH_next vW_inFront vH_sizes vH_width) H → va_D A (wX8_behind cy aN qN aH qH qW aH0 qD aH aH0 vN vH vW vD vD_now vW_who vH_kinds vW_cells vH_sorts vH_next vW_inFront vH_sizes vH_width) → va_S A s.heap H locs → lv_has ls 3 [(0, .ref aN)] → fX8_behind_J28 aH0 vN vW vW_who vW_cells vW_inFront = some (zr, z_vN, z_vW, z_vW_who, z_vW_cells, z_vW_inFront, z_aH0) → W p l e ({ frames := 4, cells := 0, slots := 0, locals := 96 } : Room) s m ([.ref aN, .int x1, .int x2] : List Value).toArray below meth c H locs 0 0 Q (F0 m 28 ls []) := by
    intro  H locs ls hP hD hS hl hok
    unfold fX8_behind_J28 at hok
    refine lv_aload_n hx hb dX8_behind_28 rfl (lv_at hl 0 rfl) ?_
    refine lv_iconst (v := 2) hx hb dX8_behind_29 (by decide) ?_
    obtain ⟨⟨r30, vN_30⟩, hc30, hok⟩ := k_bind hok
    try dsimp only at hok
    refine kCi (wc := (wX8_refuse cy aN qN aH aH vN)) (wc2 := (wX8_refuse cy aN qN aH aH vN_30)) (wr := [(aH, oX4 vH qH), (qN 2, oX6 vW qW aH0), (qN 1, oX1 vD qD), (qD 0, rI cy 9 vD_now), (qW 1, rI cy 36 vW_who), (qH 14, rI cy 7 vH_kinds), (qW 0, rI cy 7 vW_cells), (qH 8, rI cy 4 vH_sorts), (qH 10, rI cy 36 vH_next), (qW 2, rI cy 7 vW_inFront), (qH 15, rI cy 7 vH_sizes), (qH 11, rI cy 36 vH_width)]) (ws2 := (wX8_behind cy aN qN aH qH qW aH0 qD aH aH0 vN_30 vH vW vD vD_now vW_who vH_kinds vW_cells vH_sorts vH_next vW_inFront vH_sizes vH_width)) (kRunV (As := [.int 2]) (rest := []) ⟨hx, hb, hml, hown, ht0⟩ (kX8_refuse l D cy _ aN qN aH vN (2 : Int32) r30 vN_30 hc30 _ rfl) (cwV 1 ht0 (gV wd504 wd505 wd506 wd57 wd507) rfl rfl rfl (by decide +kernel) ⟨Nat.le_of_ble_eq_true rfl, Nat.le_of_ble_eq_true rfl⟩) hK hN hP hD [0] rfl (by decide) 0 7 rfl rfl rfl hl.1 rfl (Nat.le_of_ble_eq_true rfl) dX8_behind_30 ⟨Nat.zero_le _, Nat.zero_le _⟩) hP hD hS hA [0] [1, 2, 3, 4, 5, 6, 7, 8, 9, 10, 11, 12] rfl rfl (by decide) (by decide) [12, 0, 1, 2, 3, 4, 5, 6, 7, 8, 9, 10, 11] (by decide) rfl rfl (fun H locs hP hD hS => ?_)
    cases hok
    subst hQe; exact W.iret hx hb hr (fun t ht hW => ⟨⟨_, (), rfl, rfl, by rw [ht]; exact hP, va_K.moved hW.alike hK, hD⟩, hS.F ht⟩) hS.2.2 dX8_behind_33
  unfold fX8_behind at hok
  obtain ⟨H, hH⟩ : ∃ H, H = s.heap := ⟨_, rfl⟩
  obtain ⟨locs, hlc⟩ : ∃ x : List Loc, x = [] := ⟨_, rfl⟩
  have hP : va_P D vwCl (wX8_behind cy aN qN aH qH qW aH0 qD aH aH0 vN vH vW vD vD_now vW_who vH_kinds vW_cells vH_sorts vH_next vW_inFront vH_sizes vH_width) H := by rw [hH]; exact hP
  have hS : va_S A s.heap H locs := by rw [hH, hlc]; exact hS
  rw [show W p l e _ s m _ below meth c s.heap [] = W p l e _ s m _ below meth c H locs from by rw [hH, hlc]]
  refine lv_aload_n hx hb dX8_behind_0 rfl (lv_at hl 0 rfl) ?_
  refine va_get (D := D) (ci := 7) (v := .ref aH) (C := RX8) (T := TX8) (N := 9) hx hb ht0 niX8 hown hK hP 0 rfl rfl 5 (by decide) (ht0 _ wd522) (fun _ h9 => h9) rfl dX8_behind_1 ?_
  refine lv_iload_n hx hb dX8_behind_4 rfl (lv_at hl 1 rfl) ?_
  obtain ⟨r5, hc5, hok⟩ := k_bind hok
  refine kCi (wc := (wX4_hasThing cy aH qH vH)) (wc2 := (wX4_hasThing cy aH qH vH)) (wr := [(aN, oX8 vN qN aH), (qN 2, oX6 vW qW aH0), (qN 1, oX1 vD qD), (qD 0, rI cy 9 vD_now), (qW 1, rI cy 36 vW_who), (qH 14, rI cy 7 vH_kinds), (qW 0, rI cy 7 vW_cells), (qH 8, rI cy 4 vH_sorts), (qH 10, rI cy 36 vH_next), (qW 2, rI cy 7 vW_inFront), (qH 15, rI cy 7 vH_sizes), (qH 11, rI cy 36 vH_width)]) (ws2 := (wX8_behind cy aN qN aH qH qW aH0 qD aH aH0 vN vH vW vD vD_now vW_who vH_kinds vW_cells vH_sorts vH_next vW_inFront vH_sizes vH_width)) (kRunV (As := [.int x1]) (rest := []) ⟨hx, hb, hml, hown, ht0⟩ (kX4_hasThing l D cy _ aH qH vH x1 r5 hc5 _ rfl) (cwV 1 ht0 (gV wd551 wd552 wd553 wd9 wd554) rfl rfl rfl (by decide +kernel) ⟨Nat.le_of_ble_eq_true rfl, Nat.le_of_ble_eq_true rfl⟩) hK hN hP hD [1] rfl (by decide) 1 3 rfl rfl rfl hl.1 rfl (Nat.le_of_ble_eq_true rfl) dX8_behind_5 ⟨Nat.zero_le _, Nat.zero_le _⟩) hP hD hS hA [1] [0, 2, 3, 4, 5, 6, 7, 8, 9, 10, 11, 12] rfl rfl (by decide) (by decide) [0, 12, 1, 2, 3, 4, 5, 6, 7, 8, 9, 10, 11] (by decide) rfl rfl (fun H locs hP hD hS => ?_)
  refine lv_if_ne (tgt := 17) hx hb dX8_behind_8 (by decide) (fun c8 => ?_) (fun c8 => ?_)
  · have hok := k_neg c8 hok
    refine lv_iload_n hx hb dX8_behind_17 rfl (lv_at hl 2 rfl) ?_
    refine lv_if_lt (tgt := 28) hx hb dX8_behind_18 (by decide) (fun c18 => ?_) (fun c18 => ?_)
    · have hok := k_pos c18 hok
      exact J28  H locs ls hP hD hS (lv_sub hl [0] rfl) hok
    · have hok := k_neg c18 hok
      refine lv_iload_n hx hb dX8_behind_21 rfl (lv_at hl 2 rfl) ?_
      refine lv_sipush (v := 200) hx hb dX8_behind_22 (by decide) ?_
      refine lv_icmp_le (tgt := 34) hx hb dX8_behind_25 (by decide) (fun c25 => ?_) (fun c25 => ?_)
      · have hok := k_pos c25 hok
        refine lv_aload_n hx hb dX8_behind_34 rfl (lv_at hl 0 rfl) ?_
        refine va_get (D := D) (ci := 7) (v := .ref (qN 2)) (C := RX8) (T := TX8) (N := 9) hx hb ht0 niX8 hown hK hP 0 rfl rfl 2 (by decide) (ht0 _ wd578) (fun _ h9 => h9) rfl dX8_behind_35 ?_
        refine lv_aload_n hx hb dX8_behind_38 rfl (lv_at hl 0 rfl) ?_
        refine va_get (D := D) (ci := 7) (v := .ref aH) (C := RX8) (T := TX8) (N := 9) hx hb ht0 niX8 hown hK hP 0 rfl rfl 5 (by decide) (ht0 _ wd522) (fun _ h9 => h9) rfl dX8_behind_39 ?_
        refine lv_aload_n hx hb dX8_behind_42 rfl (lv_at hl 0 rfl) ?_
        refine va_get (D := D) (ci := 7) (v := .ref (qN 1)) (C := RX8) (T := TX8) (N := 9) hx hb ht0 niX8 hown hK hP 0 rfl rfl 1 (by decide) (ht0 _ wd527) (fun _ h9 => h9) rfl dX8_behind_43 ?_
        refine lv_iconst (v := 0) hx hb dX8_behind_46 (by decide) ?_
        obtain ⟨⟨vW_47, vW_who_47, vW_cells_47⟩, hc47, hok⟩ := k_bind hok
        try dsimp only at hok
        refine kCv (wc := (wX6_start cy (qN 2) aH (qN 1) qW aH0 qD qH aH0 vW vD vD_now vW_who vH vH_kinds vW_cells vH_sorts)) (wc2 := (wX6_start cy (qN 2) aH (qN 1) qW aH0 qD qH aH vW_47 vD vD_now vW_who_47 vH vH_kinds vW_cells_47 vH_sorts)) (wr := [(aN, oX8 vN qN aH), (qH 10, rI cy 36 vH_next), (qW 2, rI cy 7 vW_inFront), (qH 15, rI cy 7 vH_sizes), (qH 11, rI cy 36 vH_width)]) (ws2 := (wX8_behind cy aN qN aH qH qW aH0 qD aH aH vN vH vW_47 vD vD_now vW_who_47 vH_kinds vW_cells_47 vH_sorts vH_next vW_inFront vH_sizes vH_width)) (kRunV (As := [.ref aH, .ref (qN 1), .int 0]) (rest := []) ⟨hx, hb, hml, hown, ht0⟩ (kX6_start l D cy _ (qN 2) aH (qN 1) qW aH0 qD qH vW vD vD_now vW_who vH vH_kinds vW_cells vH_sorts (0 : Int32) vW_47 vW_who_47 vW_cells_47 hc47 _ rfl) (cwV 3 ht0 (gV wd579 wd181 wd182 wd114 wd183) rfl rfl rfl (by decide +kernel) ⟨Nat.le_of_ble_eq_true rfl, Nat.le_of_ble_eq_true rfl⟩) hK hN hP hD [2, 3, 4, 5, 1, 6, 7, 8] rfl (by decide) 2 5 rfl rfl rfl hl.1 rfl (Nat.le_of_ble_eq_true rfl) dX8_behind_47 ⟨Nat.zero_le _, Nat.zero_le _⟩) hP hD hS hA [2, 3, 4, 5, 1, 6, 7, 8] [0, 9, 10, 11, 12] rfl rfl (by decide) (by decide) [0, 9, 5, 6, 7, 8, 10, 11, 12, 1, 2, 3, 4] (by decide) rfl rfl (fun H locs hP hD hS => ?_)
        refine lv_aload_n hx hb dX8_behind_50 rfl (lv_at hl 0 rfl) ?_
        refine va_get (D := D) (ci := 7) (v := .ref (qN 2)) (C := RX8) (T := TX8) (N := 9) hx hb ht0 niX8 hown hK hP 0 rfl rfl 2 (by decide) (ht0 _ wd578) (fun _ h9 => h9) rfl dX8_behind_51 ?_
        refine lv_iload_n hx hb dX8_behind_54 rfl (lv_at hl 2 rfl) ?_
        obtain ⟨⟨r55, vW_55, vW_cells_55, vW_who_55, vW_inFront_55⟩, hc55, hok⟩ := k_bind hok
        try dsimp only at hok
        refine kCi (wc := (wX6_goOn cy (qN 2) qW aH qH aH vW_47 vH vW_cells_47 vH_next vW_who_47 vW_inFront vH_sizes vH_width vH_kinds)) (wc2 := (wX6_goOn cy (qN 2) qW aH qH aH vW_55 vH vW_cells_55 vH_next vW_who_55 vW_inFront_55 vH_sizes vH_width vH_kinds)) (wr := [(aN, oX8 vN qN aH), (qN 1, oX1 vD qD), (qD 0, rI cy 9 vD_now), (qH 8, rI cy 4 vH_sorts)]) (ws2 := (wX8_behind cy aN qN aH qH qW aH0 qD aH aH vN vH vW_55 vD vD_now vW_who_55 vH_kinds vW_cells_55 vH_sorts vH_next vW_inFront_55 vH_sizes vH_width)) (kRunV (As := [.int x2]) (rest := []) ⟨hx, hb, hml, hown, ht0⟩ (kX6_goOn l D cy _ (qN 2) qW aH qH vW_47 vH vW_cells_47 vH_next vW_who_47 vW_inFront vH_sizes vH_width vH_kinds x2 r55 vW_55 vW_cells_55 vW_who_55 vW_inFront_55 hc55 _ rfl) (cwV 1 ht0 (gV wd593 wd185 wd186 wd114 wd187) rfl rfl rfl (by decide +kernel) ⟨Nat.le_of_ble_eq_true rfl, Nat.le_of_ble_eq_true rfl⟩) hK hN hP hD [2, 1, 7, 9, 5, 10, 11, 12, 6] rfl (by decide) 2 5 rfl rfl rfl hl.1 rfl (Nat.le_of_ble_eq_true rfl) dX8_behind_55 ⟨Nat.zero_le _, Nat.zero_le _⟩) hP hD hS hA [2, 1, 7, 9, 5, 10, 11, 12, 6] [0, 3, 4, 8] rfl rfl (by decide) (by decide) [0, 5, 4, 1, 2, 8, 12, 6, 3, 7, 9, 10, 11] (by decide) rfl rfl (fun H locs hP hD hS => ?_)
        refine lv_pop hx hb dX8_behind_58 rfl ?_
        refine lv_aload_n hx hb dX8_behind_59 rfl (lv_at hl 0 rfl) ?_
        refine lv_aload_n hx hb dX8_behind_60 rfl (lv_at hl 0 rfl) ?_
        refine va_get (D := D) (ci := 7) (v := .ref (qN 2)) (C := RX8) (T := TX8) (N := 9) hx hb ht0 niX8 hown hK hP 0 rfl rfl 2 (by decide) (ht0 _ wd578) (fun _ h9 => h9) rfl dX8_behind_61 ?_
        refine lv_iload_n hx hb dX8_behind_64 rfl (lv_at hl 1 rfl) ?_
        obtain ⟨r65, hc65, hok⟩ := k_bind hok
        refine kCi (wc := (wX6_cellOf cy (qN 2) qW aH aH vW_55 vW_cells_55)) (wc2 := (wX6_cellOf cy (qN 2) qW aH aH vW_55 vW_cells_55)) (wr := [(aN, oX8 vN qN aH), (aH, oX4 vH qH), (qN 1, oX1 vD qD), (qD 0, rI cy 9 vD_now), (qW 1, rI cy 36 vW_who_55), (qH 14, rI cy 7 vH_kinds), (qH 8, rI cy 4 vH_sorts), (qH 10, rI cy 36 vH_next), (qW 2, rI cy 7 vW_inFront_55), (qH 15, rI cy 7 vH_sizes), (qH 11, rI cy 36 vH_width)]) (ws2 := (wX8_behind cy aN qN aH qH qW aH0 qD aH aH vN vH vW_55 vD vD_now vW_who_55 vH_kinds vW_cells_55 vH_sorts vH_next vW_inFront_55 vH_sizes vH_width)) (kRunV (As := [.int x1]) (rest := [.ref aN]) ⟨hx, hb, hml, hown, ht0⟩ (kX6_cellOf l D cy _ (qN 2) qW aH vW_55 vW_cells_55 x1 r65 hc65 _ rfl) (cwV 1 ht0 (gV wd594 wd163 wd164 wd114 wd165) rfl rfl rfl (by decide +kernel) ⟨Nat.le_of_ble_eq_true rfl, Nat.le_of_ble_eq_true rfl⟩) hK hN hP hD [2, 7] rfl (by decide) 2 5 rfl rfl rfl hl.1 rfl (Nat.le_of_ble_eq_true rfl) dX8_behind_65 ⟨Nat.zero_le _, Nat.zero_le _⟩) hP hD hS hA [2, 7] [0, 1, 3, 4, 5, 6, 8, 9, 10, 11, 12] rfl rfl (by decide) (by decide) [0, 1, 11, 2, 3, 4, 5, 12, 6, 7, 8, 9, 10] (by decide) rfl rfl (fun H locs hP hD hS => ?_)
        obtain ⟨r68, hc68, hok⟩ := k_bind hok
        refine kCi (wc := (wX8_tenfold cy )) (wc2 := (wX8_tenfold cy )) (wr := [(aN, oX8 vN qN aH), (aH, oX4 vH qH), (qN 2, oX6 vW_55 qW aH), (qN 1, oX1 vD qD), (qD 0, rI cy 9 vD_now), (qW 1, rI cy 36 vW_who_55), (qH 14, rI cy 7 vH_kinds), (qW 0, rI cy 7 vW_cells_55), (qH 8, rI cy 4 vH_sorts), (qH 10, rI cy 36 vH_next), (qW 2, rI cy 7 vW_inFront_55), (qH 15, rI cy 7 vH_sizes), (qH 11, rI cy 36 vH_width)]) (ws2 := (wX8_behind cy aN qN aH qH qW aH0 qD aH aH vN vH vW_55 vD vD_now vW_who_55 vH_kinds vW_cells_55 vH_sorts vH_next vW_inFront_55 vH_sizes vH_width)) (kRunS (As := [.int r65]) (rest := [.ref aN]) ⟨hx, hb, hml, hown, ht0⟩ (kX8_tenfold l D cy _ r65 r68 hc68 _ rfl) (va_cwS 1 ht0 (gS wd595 wd596 wd57 wd597) rfl rfl rfl (by decide +kernel) ⟨Nat.le_of_ble_eq_true rfl, Nat.le_of_ble_eq_true rfl⟩) hK hN hP hD [] rfl (by decide) rfl hl.1 rfl (Nat.le_of_ble_eq_true rfl) dX8_behind_68 ⟨Nat.zero_le _, Nat.zero_le _⟩) hP hD hS hA [] [0, 1, 2, 3, 4, 5, 6, 7, 8, 9, 10, 11, 12] rfl rfl (by decide) (by decide) [0, 1, 2, 3, 4, 5, 6, 7, 8, 9, 10, 11, 12] (by decide) rfl rfl (fun H locs hP hD hS => ?_)
        obtain ⟨⟨r71, vN_71⟩, hc71, hok⟩ := k_bind hok
        try dsimp only at hok
        refine kCi (wc := (wX8_answer cy aN qN aH aH vN)) (wc2 := (wX8_answer cy aN qN aH aH vN_71)) (wr := [(aH, oX4 vH qH), (qN 2, oX6 vW_55 qW aH), (qN 1, oX1 vD qD), (qD 0, rI cy 9 vD_now), (qW 1, rI cy 36 vW_who_55), (qH 14, rI cy 7 vH_kinds), (qW 0, rI cy 7 vW_cells_55), (qH 8, rI cy 4 vH_sorts), (qH 10, rI cy 36 vH_next), (qW 2, rI cy 7 vW_inFront_55), (qH 15, rI cy 7 vH_sizes), (qH 11, rI cy 36 vH_width)]) (ws2 := (wX8_behind cy aN qN aH qH qW aH0 qD aH aH vN_71 vH vW_55 vD vD_now vW_who_55 vH_kinds vW_cells_55 vH_sorts vH_next vW_inFront_55 vH_sizes vH_width)) (kRunV (As := [.int r68]) (rest := []) ⟨hx, hb, hml, hown, ht0⟩ (kX8_answer l D cy _ aN qN aH vN r68 r71 vN_71 hc71 _ rfl) (cwV 1 ht0 (gV wd538 wd539 wd540 wd57 wd541) rfl rfl rfl (by decide +kernel) ⟨Nat.le_of_ble_eq_true rfl, Nat.le_of_ble_eq_true rfl⟩) hK hN hP hD [0] rfl (by decide) 0 7 rfl rfl rfl hl.1 rfl (Nat.le_of_ble_eq_true rfl) dX8_behind_71 ⟨Nat.zero_le _, Nat.zero_le _⟩) hP hD hS hA [0] [1, 2, 3, 4, 5, 6, 7, 8, 9, 10, 11, 12] rfl rfl (by decide) (by decide) [12, 0, 1, 2, 3, 4, 5, 6, 7, 8, 9, 10, 11] (by decide) rfl rfl (fun H locs hP hD hS => ?_)
        cases hok
        subst hQe; exact W.iret hx hb hr (fun t ht hW => ⟨⟨_, (), rfl, rfl, by rw [ht]; exact hP, va_K.moved hW.alike hK, hD⟩, hS.F ht⟩) hS.2.2 dX8_behind_74
      · have hok := k_neg c25 hok
        exact J28  H locs ls hP hD hS (lv_sub hl [0] rfl) hok
  · have hok := k_pos c8 hok
    refine lv_aload_n hx hb dX8_behind_11 rfl (lv_at hl 0 rfl) ?_
    refine lv_iconst (v := 1) hx hb dX8_behind_12 (by decide) ?_
    obtain ⟨⟨r13, vN_13⟩, hc13, hok⟩ := k_bind hok
    try dsimp only at hok
    refine kCi (wc := (wX8_refuse cy aN qN aH aH vN)) (wc2 := (wX8_refuse cy aN qN aH aH vN_13)) (wr := [(aH, oX4 vH qH), (qN 2, oX6 vW qW aH0), (qN 1, oX1 vD qD), (qD 0, rI cy 9 vD_now), (qW 1, rI cy 36 vW_who), (qH 14, rI cy 7 vH_kinds), (qW 0, rI cy 7 vW_cells), (qH 8, rI cy 4 vH_sorts), (qH 10, rI cy 36 vH_next), (qW 2, rI cy 7 vW_inFront), (qH 15, rI cy 7 vH_sizes), (qH 11, rI cy 36 vH_width)]) (ws2 := (wX8_behind cy aN qN aH qH qW aH0 qD aH aH0 vN_13 vH vW vD vD_now vW_who vH_kinds vW_cells vH_sorts vH_next vW_inFront vH_sizes vH_width)) (kRunV (As := [.int 1]) (rest := []) ⟨hx, hb, hml, hown, ht0⟩ (kX8_refuse l D cy _ aN qN aH vN (1 : Int32) r13 vN_13 hc13 _ rfl) (cwV 1 ht0 (gV wd504 wd505 wd506 wd57 wd507) rfl rfl rfl (by decide +kernel) ⟨Nat.le_of_ble_eq_true rfl, Nat.le_of_ble_eq_true rfl⟩) hK hN hP hD [0] rfl (by decide) 0 7 rfl rfl rfl hl.1 rfl (Nat.le_of_ble_eq_true rfl) dX8_behind_13 ⟨Nat.zero_le _, Nat.zero_le _⟩) hP hD hS hA [0] [1, 2, 3, 4, 5, 6, 7, 8, 9, 10, 11, 12] rfl rfl (by decide) (by decide) [12, 0, 1, 2, 3, 4, 5, 6, 7, 8, 9, 10, 11] (by decide) rfl rfl (fun H locs hP hD hS => ?_)
    cases hok
    subst hQe; exact W.iret hx hb hr (fun t ht hW => ⟨⟨_, (), rfl, rfl, by rw [ht]; exact hP, va_K.moved hW.alike hK, hD⟩, hS.F ht⟩) hS.2.2 dX8_behind_16
def wsX8_when : List Cond := .code yX8_when cX8_when 6 (some .int) :: W0
abbrev wX8_when (cy : Nat → ClassId) (aN : Nat) (qN : Nat → Nat) (aH : Nat) (qH : Nat → Nat) (qW : Nat → Nat) (aH0 : Nat) (qD : Nat → Nat) (fvN_5 : Nat) (fvW_4 : Nat) (vN : Nat → Int32) (vH : Nat → Int32) (vH_places : Nat → Int32) (vW : Nat → Int32) (vD : Nat → Int32) (vD_now : Nat → Int32) (vW_who : Nat → Int32) (vH_kinds : Nat → Int32) (vW_cells : Nat → Int32) (vH_sorts : Nat → Int32) (vH_next : Nat → Int32) (vW_inFront : Nat → Int32) (vH_sizes : Nat → Int32) (vH_width : Nat → Int32) : va_W := [(aN, oX8 vN qN fvN_5), (aH, oX4 vH qH), (qH 9, rI cy 4 vH_places), (qN 2, oX6 vW qW fvW_4), (qN 1, oX1 vD qD), (qD 0, rI cy 9 vD_now), (qW 1, rI cy 36 vW_who), (qH 14, rI cy 7 vH_kinds), (qW 0, rI cy 7 vW_cells), (qH 8, rI cy 4 vH_sorts), (qH 10, rI cy 36 vH_next), (qW 2, rI cy 7 vW_inFront), (qH 15, rI cy 7 vH_sizes), (qH 11, rI cy 36 vH_width)]
set_option maxHeartbeats 4000000 in
set_option maxRecDepth 100000 in
theorem kX8_when (l : Launch) (D : va_G) (cy : Nat → ClassId) (sz : Nat) (aN : Nat) (qN : Nat → Nat) (aH : Nat) (qH : Nat → Nat) (qW : Nat → Nat) (aH0 : Nat) (qD : Nat → Nat) (vN : Nat → Int32) (vH : Nat → Int32) (vH_places : Nat → Int32) (vW : Nat → Int32) (vD : Nat → Int32) (vD_now : Nat → Int32) (vW_who : Nat → Int32) (vH_kinds : Nat → Int32) (vW_cells : Nat → Int32) (vH_sorts : Nat → Int32) (vH_next : Nat → Int32) (vW_inFront : Nat → Int32) (vH_sizes : Nat → Int32) (vH_width : Nat → Int32) (x1 : Int32) (x2 : Int32) (x3 : Int32) (zr : Int32) (z_vN : Nat → Int32) (z_vW : Nat → Int32) (z_vW_who : Nat → Int32) (z_vW_cells : Nat → Int32) (z_vW_inFront : Nat → Int32) (z_aH0 : Nat) (hok : fX8_when aH aH0 vN vH vH_places vW vD vD_now vW_who vH_kinds vW_cells vH_sorts vH_next vW_inFront vH_sizes vH_width x1 x2 x3 = some (zr, z_vN, z_vW, z_vW_who, z_vW_cells, z_vW_inFront, z_aH0)) (A : Nat → Prop) (hAe : va_A (wX8_when cy aN qN aH qH qW aH0 qD aH aH0 vN vH vH_places vW vD vD_now vW_who vH_kinds vW_cells vH_sorts vH_next vW_inFront vH_sizes vH_width) sz = A) : Met l yX8_when wsX8_when ({ frames := 3, cells := 0, slots := 0, locals := 73 } : Room) (kPre D cy [.ref aN, .int x1, .int x2, .int x3] (wX8_when cy aN qN aH qH qW aH0 qD aH aH0 vN vH vH_places vW vD vD_now vW_who vH_kinds vW_cells vH_sorts vH_next vW_inFront vH_sizes vH_width) sz) (kQi D cy zr A (wX8_when cy aN qN aH qH qW aH0 qD aH z_aH0 z_vN vH vH_places z_vW vD vD_now z_vW_who vH_kinds z_vW_cells vH_sorts vH_next z_vW_inFront vH_sizes vH_width)) 0 0 A := by
  refine Met.ofW (cc := cX8_when) (maxL := 6) (ret := (some .int)) (by decide) rfl ?_
  intro p e s m args below meth c s₁ B hml hv
  obtain ⟨rfl, hsz, hP, hK, hD0, hN⟩ := hv
  have hx := B.exec
  have hb := B.bytes
  have hr := B.returns
  have ht0 : ∀ w ∈ W0, w.before _ s = true := fun w h => atoms_spec (ws := wsX8_when) B.pre w (List.mem_cons_of_mem _ h)
  have hown : s.vm.findClass RX8 = some m.cls := findClass_of_methodNamed B.named
  have hlocks := B.notSynchronized
  subst hsz
  have hD : va_D A (wX8_when cy aN qN aH qH qW aH0 qD aH aH0 vN vH vH_places vW vD vD_now vW_who vH_kinds vW_cells vH_sorts vH_next vW_inFront vH_sizes vH_width) := by rw [← hAe]; exact hD0.self
  have hA : ∀ q : Nat, s.heap.size ≤ q → A q := fun q h => by rw [← hAe]; exact Or.inr h
  have hS : va_S A s.heap s.heap [] := va_S.rf
  have hl := lv_entry ([.ref aN, .int x1, .int x2, .int x3]) (n := 6) (Nat.le_of_ble_eq_true rfl)
  rw [lg_entry_eq]
  generalize (lg_sl ([.ref aN, .int x1, .int x2, .int x3]) ++ List.replicate (6 - (lg_sl ([.ref aN, .int x1, .int x2, .int x3])).length) Slot.unset).toArray = ls at hl ⊢
  have hl : lv_has ls 6 [(0, .ref aN), (1, .int x1), (2, .int x2), (3, .int x3)] := hl
  generalize hQe : MQ below (kQi D cy zr A (wX8_when cy aN qN aH qH qW aH0 qD aH z_aH0 z_vN vH vH_places z_vW vD vD_now z_vW_who vH_kinds z_vW_cells vH_sorts vH_next z_vW_inFront vH_sizes vH_width)) ([.ref aN, .int x1, .int x2, .int x3] : List Value).toArray s 0 0 A = Q
  have L55 : ∀ (fuel : Nat) (y4_55 : Int32) (y5_55 : Int32) (vW_cells_55 : Nat → Int32) (vW_inFront_55 : Nat → Int32) (vW_who_55 : Nat → Int32) (vW_55 : Nat → Int32), ∀ (H : Heap) (locs : List Loc) (ls : Array Slot), va_P D vwCl (wX8_when cy aN qN aH qH qW aH0 qD aH aH vN vH vH_places vW_55 vD vD_now vW_who_55 vH_kinds vW_cells_55 vH_sorts vH_next vW_inFront_55 vH_sizes vH_width) H → va_D A (wX8_when cy aN qN aH qH qW aH0 qD aH aH vN vH vH_places vW_55 vD vD_now vW_who_55 vH_kinds vW_cells_55 vH_sorts vH_next vW_inFront_55 vH_sizes vH_width) → va_S A s.heap H locs → lv_has ls 6 [(0, .ref aN), (1, .int x1), (4, .int y4_55), (5, .int y5_55)] → lp (fX8_when_B55 aH vN vH vH_kinds vH_next vH_sizes vH_width x1) fuel (y4_55, y5_55, vW_cells_55, vW_inFront_55, vW_who_55, vW_55) = some (zr, z_vN, z_vW, z_vW_who, z_vW_cells, z_vW_inFront, z_aH0) → W p l e ({ frames := 3, cells := 0, slots := 0, locals := 73 } : Room) s m ([.ref aN, .int x1, .int x2, .int x3] : List Value).toArray below meth c H locs 0 0 Q (F0 m 55 ls []) := by
    intro fuel
    induction fuel with
    | zero => intro y4_55 y5_55 vW_cells_55 vW_inFront_55 vW_who_55 vW_55 H locs ls hP hD hS hl hok; exact (lp_0 hok).elim
    | succ fuel ih55 =>
      intro y4_55 y5_55 vW_cells_55 vW_inFront_55 vW_who_55 vW_55 H locs ls hP hD hS hl hok
      obtain ⟨y55, hok, hL55, hR55⟩ := lp_step hok
      unfold fX8_when_B55 at hok
      try dsimp only at hok
      refine lv_iload hx hb dX8_when_55 (lv_at hl 3 rfl) ?_
      refine lv_sipush (v := 200) hx hb dX8_when_57 (by decide) ?_
      refine lv_icmp_gt (tgt := 97) hx hb dX8_when_60 (by decide) (fun c60 => ?_) (fun c60 => ?_)
      · have hok := k_pos c60 hok
        obtain ⟨e55, hok, he55⟩ := ex_some hok
        have hok := hok.trans (congrArg some (hL55 _ he55))
        refine lv_aload_n hx hb dX8_when_97 rfl (lv_at hl 0 rfl) ?_
        refine lv_bipush (v := -2) hx hb dX8_when_98 (by decide) ?_
        obtain ⟨⟨r100, vN_100⟩, hc100, hok⟩ := k_bind hok
        try dsimp only at hok
        refine kCi (wc := (wX8_answer cy aN qN aH aH vN)) (wc2 := (wX8_answer cy aN qN aH aH vN_100)) (wr := [(aH, oX4 vH qH), (qH 9, rI cy 4 vH_places), (qN 2, oX6 vW_55 qW aH), (qN 1, oX1 vD qD), (qD 0, rI cy 9 vD_now), (qW 1, rI cy 36 vW_who_55), (qH 14, rI cy 7 vH_kinds), (qW 0, rI cy 7 vW_cells_55), (qH 8, rI cy 4 vH_sorts), (qH 10, rI cy 36 vH_next), (qW 2, rI cy 7 vW_inFront_55), (qH 15, rI cy 7 vH_sizes), (qH 11, rI cy 36 vH_width)]) (ws2 := (wX8_when cy aN qN aH qH qW aH0 qD aH aH vN_100 vH vH_places vW_55 vD vD_now vW_who_55 vH_kinds vW_cells_55 vH_sorts vH_next vW_inFront_55 vH_sizes vH_width)) (kRunV (As := [.int (-2)]) (rest := []) ⟨hx, hb, hml, hown, ht0⟩ (kX8_answer l D cy _ aN qN aH vN (-2 : Int32) r100 vN_100 hc100 _ rfl) (cwV 1 ht0 (gV wd538 wd539 wd540 wd57 wd541) rfl rfl rfl (by decide +kernel) ⟨Nat.le_of_ble_eq_true rfl, Nat.le_of_ble_eq_true rfl⟩) hK hN hP hD [0] rfl (by decide) 0 7 rfl rfl rfl hl.1 rfl (Nat.le_of_ble_eq_true rfl) dX8_when_100 ⟨Nat.zero_le _, Nat.zero_le _⟩) hP hD hS hA [0] [1, 2, 3, 4, 5, 6, 7, 8, 9, 10, 11, 12, 13] rfl rfl (by decide) (by decide) [13, 0, 1, 2, 3, 4, 5, 6, 7, 8, 9, 10, 11, 12] (by decide) rfl rfl (fun H locs hP hD hS => ?_)
        cases hok
        subst hQe; exact W.iret hx hb hr (fun t ht hW => ⟨⟨_, (), rfl, rfl, by rw [ht]; exact hP, va_K.moved hW.alike hK, hD⟩, hS.F ht⟩) hS.2.2 dX8_when_103
      · have hok := k_neg c60 hok
        refine lv_aload_n hx hb dX8_when_63 rfl (lv_at hl 0 rfl) ?_
        refine va_get (D := D) (ci := 7) (v := .ref (qN 2)) (C := RX8) (T := TX8) (N := 9) hx hb ht0 niX8 hown hK hP 0 rfl rfl 2 (by decide) (ht0 _ wd578) (fun _ h9 => h9) rfl dX8_when_64 ?_
        refine lv_iload_n hx hb dX8_when_67 rfl (lv_at hl 1 rfl) ?_
        obtain ⟨r68, hc68, hok⟩ := k_bind hok
        refine kCi (wc := (wX6_cellOf cy (qN 2) qW aH aH vW_55 vW_cells_55)) (wc2 := (wX6_cellOf cy (qN 2) qW aH aH vW_55 vW_cells_55)) (wr := [(aN, oX8 vN qN aH), (aH, oX4 vH qH), (qH 9, rI cy 4 vH_places), (qN 1, oX1 vD qD), (qD 0, rI cy 9 vD_now), (qW 1, rI cy 36 vW_who_55), (qH 14, rI cy 7 vH_kinds), (qH 8, rI cy 4 vH_sorts), (qH 10, rI cy 36 vH_next), (qW 2, rI cy 7 vW_inFront_55), (qH 15, rI cy 7 vH_sizes), (qH 11, rI cy 36 vH_width)]) (ws2 := (wX8_when cy aN qN aH qH qW aH0 qD aH aH vN vH vH_places vW_55 vD vD_now vW_who_55 vH_kinds vW_cells_55 vH_sorts vH_next vW_inFront_55 vH_sizes vH_width)) (kRunV (As := [.int x1]) (rest := []) ⟨hx, hb, hml, hown, ht0⟩ (kX6_cellOf l D cy _ (qN 2) qW aH vW_55 vW_cells_55 x1 r68 hc68 _ rfl) (cwV 1 ht0 (gV wd594 wd163 wd164 wd114 wd165) rfl rfl rfl (by decide +kernel) ⟨Nat.le_of_ble_eq_true rfl, Nat.le_of_ble_eq_true rfl⟩) hK hN hP hD [3, 8] rfl (by decide) 3 5 rfl rfl rfl hl.1 rfl (Nat.le_of_ble_eq_true rfl) dX8_when_68 ⟨Nat.zero_le _, Nat.zero_le _⟩) hP hD hS hA [3, 8] [0, 1, 2, 4, 5, 6, 7, 9, 10, 11, 12, 13] rfl rfl (by decide) (by decide) [0, 1, 2, 12, 3, 4, 5, 6, 13, 7, 8, 9, 10, 11] (by decide) rfl rfl (fun H locs hP hD hS => ?_)
        refine lv_iload hx hb dX8_when_71 (lv_at hl 2 rfl) ?_
        refine lv_icmp_ne (tgt := 83) hx hb dX8_when_73 (by decide) (fun c73 => ?_) (fun c73 => ?_)
        · have hok := k_neg c73 hok
          refine lv_aload_n hx hb dX8_when_83 rfl (lv_at hl 0 rfl) ?_
          refine va_get (D := D) (ci := 7) (v := .ref (qN 2)) (C := RX8) (T := TX8) (N := 9) hx hb ht0 niX8 hown hK hP 0 rfl rfl 2 (by decide) (ht0 _ wd578) (fun _ h9 => h9) rfl dX8_when_84 ?_
          refine lv_iconst (v := 0) hx hb dX8_when_87 (by decide) ?_
          obtain ⟨⟨vW_88, vW_cells_88, vW_who_88, vW_inFront_88⟩, hc88, hok⟩ := k_bind hok
          try dsimp only at hok
          refine kCv (wc := (wX6_pass cy (qN 2) qW aH qH aH vW_55 vH vW_cells_55 vH_next vW_who_55 vW_inFront_55 vH_sizes vH_width vH_kinds)) (wc2 := (wX6_pass cy (qN 2) qW aH qH aH vW_88 vH vW_cells_88 vH_next vW_who_88 vW_inFront_88 vH_sizes vH_width vH_kinds)) (wr := [(aN, oX8 vN qN aH), (qH 9, rI cy 4 vH_places), (qN 1, oX1 vD qD), (qD 0, rI cy 9 vD_now), (qH 8, rI cy 4 vH_sorts)]) (ws2 := (wX8_when cy aN qN aH qH qW aH0 qD aH aH vN vH vH_places vW_88 vD vD_now vW_who_88 vH_kinds vW_cells_88 vH_sorts vH_next vW_inFront_88 vH_sizes vH_width)) (kRunV (As := [.int 0]) (rest := []) ⟨hx, hb, hml, hown, ht0⟩ (kX6_pass l D cy _ (qN 2) qW aH qH vW_55 vH vW_cells_55 vH_next vW_who_55 vW_inFront_55 vH_sizes vH_width vH_kinds (0 : Int32) vW_88 vW_cells_88 vW_who_88 vW_inFront_88 hc88 _ rfl) (cwV 1 ht0 (gV wd598 wd155 wd156 wd114 wd157) rfl rfl rfl (by decide +kernel) ⟨Nat.le_of_ble_eq_true rfl, Nat.le_of_ble_eq_true rfl⟩) hK hN hP hD [3, 1, 8, 10, 6, 11, 12, 13, 7] rfl (by decide) 3 5 rfl rfl rfl hl.1 rfl (Nat.le_of_ble_eq_true rfl) dX8_when_88 ⟨Nat.zero_le _, Nat.zero_le _⟩) hP hD hS hA [3, 1, 8, 10, 6, 11, 12, 13, 7] [0, 2, 4, 5, 9] rfl rfl (by decide) (by decide) [0, 6, 1, 5, 2, 3, 9, 13, 7, 4, 8, 10, 11, 12] (by decide) rfl rfl (fun H locs hP hD hS => ?_)
          refine lv_iinc (v := (y5_55 + 1)) (lv' := [(5, .int (y5_55 + 1)), (0, .ref aN), (1, .int x1), (4, .int y4_55)]) hx hb dX8_when_91 hl (k := 3) rfl (by first | rfl | decide) (by decide) rfl (fun ls hl => ?_)
          refine lv_goto (tgt := 55) hx hb dX8_when_94 (by decide) ?_
          exact ih55 y4_55 (y5_55 + 1) vW_cells_88 vW_inFront_88 vW_who_88 vW_88 H locs ls hP hD hS (lv_sub hl [1, 2, 3, 0] rfl) (hR55 _ (Option.some.inj hok).symm)
        · have hok := k_pos c73 hok
          obtain ⟨e55, hok, he55⟩ := ex_some hok
          have hok := hok.trans (congrArg some (hL55 _ he55))
          refine lv_aload_n hx hb dX8_when_76 rfl (lv_at hl 0 rfl) ?_
          refine lv_iload hx hb dX8_when_77 (lv_at hl 3 rfl) ?_
          obtain ⟨⟨r79, vN_79⟩, hc79, hok⟩ := k_bind hok
          try dsimp only at hok
          refine kCi (wc := (wX8_answer cy aN qN aH aH vN)) (wc2 := (wX8_answer cy aN qN aH aH vN_79)) (wr := [(aH, oX4 vH qH), (qH 9, rI cy 4 vH_places), (qN 2, oX6 vW_55 qW aH), (qN 1, oX1 vD qD), (qD 0, rI cy 9 vD_now), (qW 1, rI cy 36 vW_who_55), (qH 14, rI cy 7 vH_kinds), (qW 0, rI cy 7 vW_cells_55), (qH 8, rI cy 4 vH_sorts), (qH 10, rI cy 36 vH_next), (qW 2, rI cy 7 vW_inFront_55), (qH 15, rI cy 7 vH_sizes), (qH 11, rI cy 36 vH_width)]) (ws2 := (wX8_when cy aN qN aH qH qW aH0 qD aH aH vN_79 vH vH_places vW_55 vD vD_now vW_who_55 vH_kinds vW_cells_55 vH_sorts vH_next vW_inFront_55 vH_sizes vH_width)) (kRunV (As := [.int y5_55]) (rest := []) ⟨hx, hb, hml, hown, ht0⟩ (kX8_answer l D cy _ aN qN aH vN y5_55 r79 vN_79 hc79 _ rfl) (cwV 1 ht0 (gV wd538 wd539 wd540 wd57 wd541) rfl rfl rfl (by decide +kernel) ⟨Nat.le_of_ble_eq_true rfl, Nat.le_of_ble_eq_true rfl⟩) hK hN hP hD [0] rfl (by decide) 0 7 rfl rfl rfl hl.1 rfl (Nat.le_of_ble_eq_true rfl) dX8_when_79 ⟨Nat.zero_le _, Nat.zero_le _⟩) hP hD hS hA [0] [1, 2, 3, 4, 5, 6, 7, 8, 9, 10, 11, 12, 13] rfl rfl (by decide) (by decide) [13, 0, 1, 2, 3, 4, 5, 6, 7, 8, 9, 10, 11, 12] (by decide) rfl rfl (fun H locs hP hD hS => ?_)
          cases hok
          subst hQe; exact W.iret hx hb hr (fun t ht hW => ⟨⟨_, (), rfl, rfl, by rw [ht]; exact hP, va_K.moved hW.alike hK, hD⟩, hS.F ht⟩) hS.2.2 dX8_when_82
  have J23 : ∀ (H : Heap) (locs : List Loc) (ls : Array Slot), va_P D vwCl (wX8_when cy aN qN aH qH qW aH0 qD aH aH0 vN vH vH_places vW vD vD_now vW_who vH_kinds vW_cells vH_sorts vH_next vW_inFront vH_sizes vH_width) H → va_D A (wX8_when cy aN qN aH qH qW aH0 qD aH aH0 vN vH vH_places vW vD vD_now vW_who vH_kinds vW_cells vH_sorts vH_next vW_inFront vH_sizes vH_width) → va_S A s.heap H locs → lv_has ls 6 [(0, .ref aN)] → fX8_when_J23 aH0 vN vW vW_who vW_cells vW_inFront = some (zr, z_vN, z_vW, z_vW_who, z_vW_cells, z_vW_inFront, z_aH0) → W p l e ({ frames := 3, cells := 0, slots := 0, locals := 73 } : Room) s m ([.ref aN, .int x1, .int x2, .int x3] : List Value).toArray below meth c H locs 0 0 Q (F0 m 23 ls []) := by
    intro  H locs ls hP hD hS hl hok
    unfold fX8_when_J23 at hok
    refine lv_aload_n hx hb dX8_when_23 rfl (lv_at hl 0 rfl) ?_
    refine lv_iconst (v := 1) hx hb dX8_when_24 (by decide) ?_
    obtain ⟨⟨r25, vN_25⟩, hc25, hok⟩ := k_bind hok
    try dsimp only at hok
    refine kCi (wc := (wX8_refuse cy aN qN aH aH vN)) (wc2 := (wX8_refuse cy aN qN aH aH vN_25)) (wr := [(aH, oX4 vH qH), (qH 9, rI cy 4 vH_places), (qN 2, oX6 vW qW aH0), (qN 1, oX1 vD qD), (qD 0, rI cy 9 vD_now), (qW 1, rI cy 36 vW_who), (qH 14, rI cy 7 vH_kinds), (qW 0, rI cy 7 vW_cells), (qH 8, rI cy 4 vH_sorts), (qH 10, rI cy 36 vH_next), (qW 2, rI cy 7 vW_inFront), (qH 15, rI cy 7 vH_sizes), (qH 11, rI cy 36 vH_width)]) (ws2 := (wX8_when cy aN qN aH qH qW aH0 qD aH aH0 vN_25 vH vH_places vW vD vD_now vW_who vH_kinds vW_cells vH_sorts vH_next vW_inFront vH_sizes vH_width)) (kRunV (As := [.int 1]) (rest := []) ⟨hx, hb, hml, hown, ht0⟩ (kX8_refuse l D cy _ aN qN aH vN (1 : Int32) r25 vN_25 hc25 _ rfl) (cwV 1 ht0 (gV wd504 wd505 wd506 wd57 wd507) rfl rfl rfl (by decide +kernel) ⟨Nat.le_of_ble_eq_true rfl, Nat.le_of_ble_eq_true rfl⟩) hK hN hP hD [0] rfl (by decide) 0 7 rfl rfl rfl hl.1 rfl (Nat.le_of_ble_eq_true rfl) dX8_when_25 ⟨Nat.zero_le _, Nat.zero_le _⟩) hP hD hS hA [0] [1, 2, 3, 4, 5, 6, 7, 8, 9, 10, 11, 12, 13] rfl rfl (by decide) (by decide) [13, 0, 1, 2, 3, 4, 5, 6, 7, 8, 9, 10, 11, 12] (by decide) rfl rfl (fun H locs hP hD hS => ?_)
    cases hok
    subst hQe; exact W.iret hx hb hr (fun t ht hW => ⟨⟨_, (), rfl, rfl, by rw [ht]; exact hP, va_K.moved hW.alike hK, hD⟩, hS.F ht⟩) hS.2.2 dX8_when_28
  unfold fX8_when at hok
  obtain ⟨H, hH⟩ : ∃ H, H = s.heap := ⟨_, rfl⟩
  obtain ⟨locs, hlc⟩ : ∃ x : List Loc, x = [] := ⟨_, rfl⟩
  have hP : va_P D vwCl (wX8_when cy aN qN aH qH qW aH0 qD aH aH0 vN vH vH_places vW vD vD_now vW_who vH_kinds vW_cells vH_sorts vH_next vW_inFront vH_sizes vH_width) H := by rw [hH]; exact hP
  have hS : va_S A s.heap H locs := by rw [hH, hlc]; exact hS
  rw [show W p l e _ s m _ below meth c s.heap [] = W p l e _ s m _ below meth c H locs from by rw [hH, hlc]]
  refine lv_aload_n hx hb dX8_when_0 rfl (lv_at hl 0 rfl) ?_
  refine va_get (D := D) (ci := 7) (v := .ref aH) (C := RX8) (T := TX8) (N := 9) hx hb ht0 niX8 hown hK hP 0 rfl rfl 5 (by decide) (ht0 _ wd522) (fun _ h9 => h9) rfl dX8_when_1 ?_
  refine lv_iload_n hx hb dX8_when_4 rfl (lv_at hl 1 rfl) ?_
  obtain ⟨r5, hc5, hok⟩ := k_bind hok
  refine kCi (wc := (wX4_hasThing cy aH qH vH)) (wc2 := (wX4_hasThing cy aH qH vH)) (wr := [(aN, oX8 vN qN aH), (qH 9, rI cy 4 vH_places), (qN 2, oX6 vW qW aH0), (qN 1, oX1 vD qD), (qD 0, rI cy 9 vD_now), (qW 1, rI cy 36 vW_who), (qH 14, rI cy 7 vH_kinds), (qW 0, rI cy 7 vW_cells), (qH 8, rI cy 4 vH_sorts), (qH 10, rI cy 36 vH_next), (qW 2, rI cy 7 vW_inFront), (qH 15, rI cy 7 vH_sizes), (qH 11, rI cy 36 vH_width)]) (ws2 := (wX8_when cy aN qN aH qH qW aH0 qD aH aH0 vN vH vH_places vW vD vD_now vW_who vH_kinds vW_cells vH_sorts vH_next vW_inFront vH_sizes vH_width)) (kRunV (As := [.int x1]) (rest := []) ⟨hx, hb, hml, hown, ht0⟩ (kX4_hasThing l D cy _ aH qH vH x1 r5 hc5 _ rfl) (cwV 1 ht0 (gV wd551 wd552 wd553 wd9 wd554) rfl rfl rfl (by decide +kernel) ⟨Nat.le_of_ble_eq_true rfl, Nat.le_of_ble_eq_true rfl⟩) hK hN hP hD [1] rfl (by decide) 1 3 rfl rfl rfl hl.1 rfl (Nat.le_of_ble_eq_true rfl) dX8_when_5 ⟨Nat.zero_le _, Nat.zero_le _⟩) hP hD hS hA [1] [0, 2, 3, 4, 5, 6, 7, 8, 9, 10, 11, 12, 13] rfl rfl (by decide) (by decide) [0, 13, 1, 2, 3, 4, 5, 6, 7, 8, 9, 10, 11, 12] (by decide) rfl rfl (fun H locs hP hD hS => ?_)
  refine lv_if_eq (tgt := 23) hx hb dX8_when_8 (by decide) (fun c8 => ?_) (fun c8 => ?_)
  · have hok := k_pos c8 hok
    exact J23  H locs ls hP hD hS (lv_sub hl [0] rfl) hok
  · have hok := k_neg c8 hok
    refine lv_aload_n hx hb dX8_when_11 rfl (lv_at hl 0 rfl) ?_
    refine va_get (D := D) (ci := 7) (v := .ref aH) (C := RX8) (T := TX8) (N := 9) hx hb ht0 niX8 hown hK hP 0 rfl rfl 5 (by decide) (ht0 _ wd522) (fun _ h9 => h9) rfl dX8_when_12 ?_
    refine lv_iload_n hx hb dX8_when_15 rfl (lv_at hl 2 rfl) ?_
    refine lv_iload_n hx hb dX8_when_16 rfl (lv_at hl 3 rfl) ?_
    obtain ⟨r17, hc17, hok⟩ := k_bind hok
    refine kCi (wc := (wX4_hasPlace cy aH qH vH vH_places)) (wc2 := (wX4_hasPlace cy aH qH vH vH_places)) (wr := [(aN, oX8 vN qN aH), (qN 2, oX6 vW qW aH0), (qN 1, oX1 vD qD), (qD 0, rI cy 9 vD_now), (qW 1, rI cy 36 vW_who), (qH 14, rI cy 7 vH_kinds), (qW 0, rI cy 7 vW_cells), (qH 8, rI cy 4 vH_sorts), (qH 10, rI cy 36 vH_next), (qW 2, rI cy 7 vW_inFront), (qH 15, rI cy 7 vH_sizes), (qH 11, rI cy 36 vH_width)]) (ws2 := (wX8_when cy aN qN aH qH qW aH0 qD aH aH0 vN vH vH_places vW vD vD_now vW_who vH_kinds vW_cells vH_sorts vH_next vW_inFront vH_sizes vH_width)) (kRunV (As := [.int x2, .int x3]) (rest := []) ⟨hx, hb, hml, hown, ht0⟩ (kX4_hasPlace l D cy _ aH qH vH vH_places x2 x3 r17 hc17 _ rfl) (cwV 2 ht0 (gV wd566 wd567 wd568 wd9 wd569) rfl rfl rfl (by decide +kernel) ⟨Nat.le_of_ble_eq_true rfl, Nat.le_of_ble_eq_true rfl⟩) hK hN hP hD [1, 2] rfl (by decide) 1 3 rfl rfl rfl hl.1 rfl (Nat.le_of_ble_eq_true rfl) dX8_when_17 ⟨Nat.zero_le _, Nat.zero_le _⟩) hP hD hS hA [1, 2] [0, 3, 4, 5, 6, 7, 8, 9, 10, 11, 12, 13] rfl rfl (by decide) (by decide) [0, 12, 13, 1, 2, 3, 4, 5, 6, 7, 8, 9, 10, 11] (by decide) rfl rfl (fun H locs hP hD hS => ?_)
    refine lv_if_ne (tgt := 29) hx hb dX8_when_20 (by decide) (fun c20 => ?_) (fun c20 => ?_)
    · have hok := k_neg c20 hok
      refine lv_iload_n hx hb dX8_when_29 rfl (lv_at hl 2 rfl) ?_
      refine lv_iload_n hx hb dX8_when_30 rfl (lv_at hl 3 rfl) ?_
      obtain ⟨r31, hc31, hok⟩ := k_bind hok
      refine kCi (wc := (wX8_cellAt cy )) (wc2 := (wX8_cellAt cy )) (wr := [(aN, oX8 vN qN aH), (aH, oX4 vH qH), (qH 9, rI cy 4 vH_places), (qN 2, oX6 vW qW aH0), (qN 1, oX1 vD qD), (qD 0, rI cy 9 vD_now), (qW 1, rI cy 36 vW_who), (qH 14, rI cy 7 vH_kinds), (qW 0, rI cy 7 vW_cells), (qH 8, rI cy 4 vH_sorts), (qH 10, rI cy 36 vH_next), (qW 2, rI cy 7 vW_inFront), (qH 15, rI cy 7 vH_sizes), (qH 11, rI cy 36 vH_width)]) (ws2 := (wX8_when cy aN qN aH qH qW aH0 qD aH aH0 vN vH vH_places vW vD vD_now vW_who vH_kinds vW_cells vH_sorts vH_next vW_inFront vH_sizes vH_width)) (kRunS (As := [.int x2, .int x3]) (rest := []) ⟨hx, hb, hml, hown, ht0⟩ (kX8_cellAt l D cy _ x2 x3 r31 hc31 _ rfl) (va_cwS 2 ht0 (gS wd570 wd261 wd57 wd260) rfl rfl rfl (by decide +kernel) ⟨Nat.le_of_ble_eq_true rfl, Nat.le_of_ble_eq_true rfl⟩) hK hN hP hD [] rfl (by decide) rfl hl.1 rfl (Nat.le_of_ble_eq_true rfl) dX8_when_31 ⟨Nat.zero_le _, Nat.zero_le _⟩) hP hD hS hA [] [0, 1, 2, 3, 4, 5, 6, 7, 8, 9, 10, 11, 12, 13] rfl rfl (by decide) (by decide) [0, 1, 2, 3, 4, 5, 6, 7, 8, 9, 10, 11, 12, 13] (by decide) rfl rfl (fun H locs hP hD hS => ?_)
      refine lv_istore (lv' := [(4, .int r31), (0, .ref aN), (1, .int x1), (2, .int x2), (3, .int x3)]) hx hb dX8_when_34 hl (by decide) rfl (fun ls hl => ?_)
      refine lv_aload_n hx hb dX8_when_36 rfl (lv_at hl 1 rfl) ?_
      refine va_get (D := D) (ci := 7) (v := .ref (qN 2)) (C := RX8) (T := TX8) (N := 9) hx hb ht0 niX8 hown hK hP 0 rfl rfl 2 (by decide) (ht0 _ wd578) (fun _ h9 => h9) rfl dX8_when_37 ?_
      refine lv_aload_n hx hb dX8_when_40 rfl (lv_at hl 1 rfl) ?_
      refine va_get (D := D) (ci := 7) (v := .ref aH) (C := RX8) (T := TX8) (N := 9) hx hb ht0 niX8 hown hK hP 0 rfl rfl 5 (by decide) (ht0 _ wd522) (fun _ h9 => h9) rfl dX8_when_41 ?_
      refine lv_aload_n hx hb dX8_when_44 rfl (lv_at hl 1 rfl) ?_
      refine va_get (D := D) (ci := 7) (v := .ref (qN 1)) (C := RX8) (T := TX8) (N := 9) hx hb ht0 niX8 hown hK hP 0 rfl rfl 1 (by decide) (ht0 _ wd527) (fun _ h9 => h9) rfl dX8_when_45 ?_
      refine lv_iconst (v := 0) hx hb dX8_when_48 (by decide) ?_
      obtain ⟨⟨vW_49, vW_who_49, vW_cells_49⟩, hc49, hok⟩ := k_bind hok
      try dsimp only at hok
      refine kCv (wc := (wX6_start cy (qN 2) aH (qN 1) qW aH0 qD qH aH0 vW vD vD_now vW_who vH vH_kinds vW_cells vH_sorts)) (wc2 := (wX6_start cy (qN 2) aH (qN 1) qW aH0 qD qH aH vW_49 vD vD_now vW_who_49 vH vH_kinds vW_cells_49 vH_sorts)) (wr := [(aN, oX8 vN qN aH), (qH 9, rI cy 4 vH_places), (qH 10, rI cy 36 vH_next), (qW 2, rI cy 7 vW_inFront), (qH 15, rI cy 7 vH_sizes), (qH 11, rI cy 36 vH_width)]) (ws2 := (wX8_when cy aN qN aH qH qW aH0 qD aH aH vN vH vH_places vW_49 vD vD_now vW_who_49 vH_kinds vW_cells_49 vH_sorts vH_next vW_inFront vH_sizes vH_width)) (kRunV (As := [.ref aH, .ref (qN 1), .int 0]) (rest := []) ⟨hx, hb, hml, hown, ht0⟩ (kX6_start l D cy _ (qN 2) aH (qN 1) qW aH0 qD qH vW vD vD_now vW_who vH vH_kinds vW_cells vH_sorts (0 : Int32) vW_49 vW_who_49 vW_cells_49 hc49 _ rfl) (cwV 3 ht0 (gV wd579 wd181 wd182 wd114 wd183) rfl rfl rfl (by decide +kernel) ⟨Nat.le_of_ble_eq_true rfl, Nat.le_of_ble_eq_true rfl⟩) hK hN hP hD [3, 4, 5, 6, 1, 7, 8, 9] rfl (by decide) 3 5 rfl rfl rfl hl.1 rfl (Nat.le_of_ble_eq_true rfl) dX8_when_49 ⟨Nat.zero_le _, Nat.zero_le _⟩) hP hD hS hA [3, 4, 5, 6, 1, 7, 8, 9] [0, 2, 10, 11, 12, 13] rfl rfl (by decide) (by decide) [0, 10, 1, 6, 7, 8, 9, 11, 12, 13, 2, 3, 4, 5] (by decide) rfl rfl (fun H locs hP hD hS => ?_)
      refine lv_iconst (v := 0) hx hb dX8_when_52 (by decide) ?_
      refine lv_istore (lv' := [(5, .int 0), (4, .int r31), (0, .ref aN), (1, .int x1), (2, .int x2), (3, .int x3)]) hx hb dX8_when_53 hl (by decide) rfl (fun ls hl => ?_)
      exact L55 5000 r31 (0 : Int32) vW_cells_49 vW_inFront vW_who_49 vW_49 H locs ls hP hD hS (lv_sub hl [2, 3, 1, 0] rfl) hok
    · have hok := k_pos c20 hok
      exact J23  H locs ls hP hD hS (lv_sub hl [0] rfl) hok
def wsX8_areTwo : List Cond := .code yX8_areTwo cX8_areTwo 3 (some .boolean) :: W0
abbrev wX8_areTwo (cy : Nat → ClassId) (aN : Nat) (qN : Nat → Nat) (aH : Nat) (qH : Nat → Nat) (fvN_5 : Nat) (vN : Nat → Int32) (vH : Nat → Int32) : va_W := [(aN, oX8 vN qN fvN_5), (aH, oX4 vH qH)]
set_option maxHeartbeats 4000000 in
set_option maxRecDepth 100000 in
theorem kX8_areTwo (l : Launch) (D : va_G) (cy : Nat → ClassId) (sz : Nat) (aN : Nat) (qN : Nat → Nat) (aH : Nat) (qH : Nat → Nat) (vN : Nat → Int32) (vH : Nat → Int32) (x1 : Int32) (x2 : Int32) (zr : Int32) (hok : fX8_areTwo vN vH x1 x2 = some zr) (A : Nat → Prop) (hAe : va_A (wX8_areTwo cy aN qN aH qH aH vN vH) sz = A) : Met l yX8_areTwo wsX8_areTwo ({ frames := 1, cells := 0, slots := 0, locals := 21 } : Room) (kPre D cy [.ref aN, .int x1, .int x2] (wX8_areTwo cy aN qN aH qH aH vN vH) sz) (kQi D cy zr A (wX8_areTwo cy aN qN aH qH aH vN vH)) 0 0 A := by
  refine Met.ofW (cc := cX8_areTwo) (maxL := 3) (ret := (some .boolean)) (by decide) rfl ?_
  intro p e s m args below meth c s₁ B hml hv
  obtain ⟨rfl, hsz, hP, hK, hD0, hN⟩ := hv
  have hx := B.exec
  have hb := B.bytes
  have hr := B.returns
  have ht0 : ∀ w ∈ W0, w.before _ s = true := fun w h => atoms_spec (ws := wsX8_areTwo) B.pre w (List.mem_cons_of_mem _ h)
  have hown : s.vm.findClass RX8 = some m.cls := findClass_of_methodNamed B.named
  have hlocks := B.notSynchronized
  subst hsz
  have hD : va_D A (wX8_areTwo cy aN qN aH qH aH vN vH) := by rw [← hAe]; exact hD0.self
  have hA : ∀ q : Nat, s.heap.size ≤ q → A q := fun q h => by rw [← hAe]; exact Or.inr h
  have hS : va_S A s.heap s.heap [] := va_S.rf
  have hl := lv_entry ([.ref aN, .int x1, .int x2]) (n := 3) (Nat.le_of_ble_eq_true rfl)
  rw [lg_entry_eq]
  generalize (lg_sl ([.ref aN, .int x1, .int x2]) ++ List.replicate (3 - (lg_sl ([.ref aN, .int x1, .int x2])).length) Slot.unset).toArray = ls at hl ⊢
  have hl : lv_has ls 3 [(0, .ref aN), (1, .int x1), (2, .int x2)] := hl
  generalize hQe : MQ below (kQi D cy zr A (wX8_areTwo cy aN qN aH qH aH vN vH)) ([.ref aN, .int x1, .int x2] : List Value).toArray s 0 0 A = Q
  have J32 : ∀ (t0_32 : Int32), ∀ (H : Heap) (locs : List Loc) (ls : Array Slot), va_P D vwCl (wX8_areTwo cy aN qN aH qH aH vN vH) H → va_D A (wX8_areTwo cy aN qN aH qH aH vN vH) → va_S A s.heap H locs → lv_has ls 3 [] → fX8_areTwo_J32 t0_32 = some zr → W p l e ({ frames := 1, cells := 0, slots := 0, locals := 21 } : Room) s m ([.ref aN, .int x1, .int x2] : List Value).toArray below meth c H locs 0 0 Q (F0 m 32 ls [.int t0_32]) := by
    intro t0_32 H locs ls hP hD hS hl hok
    unfold fX8_areTwo_J32 at hok
    obtain ⟨g32, hok⟩ := gd_some hok
    cases hok
    subst hQe; exact W.zret hx hb hr (isB_nar g32) (fun t ht hW => ⟨⟨_, (), rfl, rfl, by rw [ht]; exact hP, va_K.moved hW.alike hK, hD⟩, hS.F ht⟩) hS.2.2 dX8_areTwo_32
  have J31 : ∀ (H : Heap) (locs : List Loc) (ls : Array Slot), va_P D vwCl (wX8_areTwo cy aN qN aH qH aH vN vH) H → va_D A (wX8_areTwo cy aN qN aH qH aH vN vH) → va_S A s.heap H locs → lv_has ls 3 [] → fX8_areTwo_J31 = some zr → W p l e ({ frames := 1, cells := 0, slots := 0, locals := 21 } : Room) s m ([.ref aN, .int x1, .int x2] : List Value).toArray below meth c H locs 0 0 Q (F0 m 31 ls []) := by
    intro  H locs ls hP hD hS hl hok
    unfold fX8_areTwo_J31 at hok
    refine lv_iconst (v := 0) hx hb dX8_areTwo_31 (by decide) ?_
    exact J32 (0 : Int32) H locs ls hP hD hS (lv_sub hl [] rfl) hok
  unfold fX8_areTwo at hok
  obtain ⟨H, hH⟩ : ∃ H, H = s.heap := ⟨_, rfl⟩
  obtain ⟨locs, hlc⟩ : ∃ x : List Loc, x = [] := ⟨_, rfl⟩
  have hP : va_P D vwCl (wX8_areTwo cy aN qN aH qH aH vN vH) H := by rw [hH]; exact hP
  have hS : va_S A s.heap H locs := by rw [hH, hlc]; exact hS
  rw [show W p l e _ s m _ below meth c s.heap [] = W p l e _ s m _ below meth c H locs from by rw [hH, hlc]]
  refine lv_aload_n hx hb dX8_areTwo_0 rfl (lv_at hl 0 rfl) ?_
  refine va_get (D := D) (ci := 7) (v := .ref aH) (C := RX8) (T := TX8) (N := 9) hx hb ht0 niX8 hown hK hP 0 rfl rfl 5 (by decide) (ht0 _ wd522) (fun _ h9 => h9) rfl dX8_areTwo_1 ?_
  refine lv_iload_n hx hb dX8_areTwo_4 rfl (lv_at hl 1 rfl) ?_
  obtain ⟨r5, hc5, hok⟩ := k_bind hok
  refine kCi (wc := (wX4_hasThing cy aH qH vH)) (wc2 := (wX4_hasThing cy aH qH vH)) (wr := [(aN, oX8 vN qN aH)]) (ws2 := (wX8_areTwo cy aN qN aH qH aH vN vH)) (kRunV (As := [.int x1]) (rest := []) ⟨hx, hb, hml, hown, ht0⟩ (kX4_hasThing l D cy _ aH qH vH x1 r5 hc5 _ rfl) (cwV 1 ht0 (gV wd551 wd552 wd553 wd9 wd554) rfl rfl rfl (by decide +kernel) ⟨Nat.le_of_ble_eq_true rfl, Nat.le_of_ble_eq_true rfl⟩) hK hN hP hD [1] rfl (by decide) 1 3 rfl rfl rfl hl.1 rfl (Nat.le_of_ble_eq_true rfl) dX8_areTwo_5 ⟨Nat.zero_le _, Nat.zero_le _⟩) hP hD hS hA [1] [0] rfl rfl (by decide) (by decide) [0, 1] (by decide) rfl rfl (fun H locs hP hD hS => ?_)
  refine lv_if_eq (tgt := 31) hx hb dX8_areTwo_8 (by decide) (fun c8 => ?_) (fun c8 => ?_)
  · have hok := k_pos c8 hok
    exact J31  H locs ls hP hD hS (lv_sub hl [] rfl) hok
  · have hok := k_neg c8 hok
    refine lv_aload_n hx hb dX8_areTwo_11 rfl (lv_at hl 0 rfl) ?_
    refine va_get (D := D) (ci := 7) (v := .ref aH) (C := RX8) (T := TX8) (N := 9) hx hb ht0 niX8 hown hK hP 0 rfl rfl 5 (by decide) (ht0 _ wd522) (fun _ h9 => h9) rfl dX8_areTwo_12 ?_
    refine lv_iload_n hx hb dX8_areTwo_15 rfl (lv_at hl 2 rfl) ?_
    obtain ⟨r16, hc16, hok⟩ := k_bind hok
    refine kCi (wc := (wX4_hasThing cy aH qH vH)) (wc2 := (wX4_hasThing cy aH qH vH)) (wr := [(aN, oX8 vN qN aH)]) (ws2 := (wX8_areTwo cy aN qN aH qH aH vN vH)) (kRunV (As := [.int x2]) (rest := []) ⟨hx, hb, hml, hown, ht0⟩ (kX4_hasThing l D cy _ aH qH vH x2 r16 hc16 _ rfl) (cwV 1 ht0 (gV wd551 wd552 wd553 wd9 wd554) rfl rfl rfl (by decide +kernel) ⟨Nat.le_of_ble_eq_true rfl, Nat.le_of_ble_eq_true rfl⟩) hK hN hP hD [1] rfl (by decide) 1 3 rfl rfl rfl hl.1 rfl (Nat.le_of_ble_eq_true rfl) dX8_areTwo_16 ⟨Nat.zero_le _, Nat.zero_le _⟩) hP hD hS hA [1] [0] rfl rfl (by decide) (by decide) [0, 1] (by decide) rfl rfl (fun H locs hP hD hS => ?_)
    refine lv_if_eq (tgt := 31) hx hb dX8_areTwo_19 (by decide) (fun c19 => ?_) (fun c19 => ?_)
    · have hok := k_pos c19 hok
      exact J31  H locs ls hP hD hS (lv_sub hl [] rfl) hok
    · have hok := k_neg c19 hok
      refine lv_iload_n hx hb dX8_areTwo_22 rfl (lv_at hl 1 rfl) ?_
      refine lv_iload_n hx hb dX8_areTwo_23 rfl (lv_at hl 2 rfl) ?_
      refine lv_icmp_eq (tgt := 31) hx hb dX8_areTwo_24 (by decide) (fun c24 => ?_) (fun c24 => ?_)
      · have hok := k_pos c24 hok
        exact J31  H locs ls hP hD hS (lv_sub hl [] rfl) hok
      · have hok := k_neg c24 hok
        refine lv_iconst (v := 1) hx hb dX8_areTwo_27 (by decide) ?_
        refine lv_goto (tgt := 32) hx hb dX8_areTwo_28 (by decide) ?_
        exact J32 (1 : Int32) H locs ls hP hD hS (lv_sub hl [] rfl) hok
def wsX8_meets : List Cond := .code yX8_meets cX8_meets 4 (some .int) :: W0
abbrev wX8_meets (cy : Nat → ClassId) (aN : Nat) (qN : Nat → Nat) (aH : Nat) (qH : Nat → Nat) (qW : Nat → Nat) (aH0 : Nat) (qD : Nat → Nat) (fvN_5 : Nat) (fvW_4 : Nat) (vN : Nat → Int32) (vH : Nat → Int32) (vW : Nat → Int32) (vD : Nat → Int32) (vD_now : Nat → Int32) (vW_who : Nat → Int32) (vH_kinds : Nat → Int32) (vW_cells : Nat → Int32) (vH_sorts : Nat → Int32) (vH_doorOne : Nat → Int32) (vH_doorTwo : Nat → Int32) (vH_next : Nat → Int32) (vW_inFront : Nat → Int32) (vH_sizes : Nat → Int32) (vH_width : Nat → Int32) : va_W := [(aN, oX8 vN qN fvN_5), (aH, oX4 vH qH), (qN 2, oX6 vW qW fvW_4), (qN 1, oX1 vD qD), (qD 0, rI cy 9 vD_now), (qW 1, rI cy 36 vW_who), (qH 14, rI cy 7 vH_kinds), (qW 0, rI cy 7 vW_cells), (qH 8, rI cy 4 vH_sorts), (qH 12, rI cy 5 vH_doorOne), (qH 13, rI cy 5 vH_doorTwo), (qH 10, rI cy 36 vH_next), (qW 2, rI cy 7 vW_inFront), (qH 15, rI cy 7 vH_sizes), (qH 11, rI cy 36 vH_width)]
set_option maxHeartbeats 4000000 in
set_option maxRecDepth 100000 in
theorem kX8_meets (l : Launch) (D : va_G) (cy : Nat → ClassId) (sz : Nat) (aN : Nat) (qN : Nat → Nat) (aH : Nat) (qH : Nat → Nat) (qW : Nat → Nat) (aH0 : Nat) (qD : Nat → Nat) (vN : Nat → Int32) (vH : Nat → Int32) (vW : Nat → Int32) (vD : Nat → Int32) (vD_now : Nat → Int32) (vW_who : Nat → Int32) (vH_kinds : Nat → Int32) (vW_cells : Nat → Int32) (vH_sorts : Nat → Int32) (vH_doorOne : Nat → Int32) (vH_doorTwo : Nat → Int32) (vH_next : Nat → Int32) (vW_inFront : Nat → Int32) (vH_sizes : Nat → Int32) (vH_width : Nat → Int32) (x1 : Int32) (x2 : Int32) (zr : Int32) (z_vN : Nat → Int32) (z_vW : Nat → Int32) (z_vW_who : Nat → Int32) (z_vW_cells : Nat → Int32) (z_vW_inFront : Nat → Int32) (z_aH0 : Nat) (hok : fX8_meets aH aH0 vN vH vW vD vD_now vW_who vH_kinds vW_cells vH_sorts vH_doorOne vH_doorTwo vH_next vW_inFront vH_sizes vH_width x1 x2 = some (zr, z_vN, z_vW, z_vW_who, z_vW_cells, z_vW_inFront, z_aH0)) (A : Nat → Prop) (hAe : va_A (wX8_meets cy aN qN aH qH qW aH0 qD aH aH0 vN vH vW vD vD_now vW_who vH_kinds vW_cells vH_sorts vH_doorOne vH_doorTwo vH_next vW_inFront vH_sizes vH_width) sz = A) : Met l yX8_meets wsX8_meets ({ frames := 3, cells := 0, slots := 0, locals := 73 } : Room) (kPre D cy [.ref aN, .int x1, .int x2] (wX8_meets cy aN qN aH qH qW aH0 qD aH aH0 vN vH vW vD vD_now vW_who vH_kinds vW_cells vH_sorts vH_doorOne vH_doorTwo vH_next vW_inFront vH_sizes vH_width) sz) (kQi D cy zr A (wX8_meets cy aN qN aH qH qW aH0 qD aH z_aH0 z_vN vH z_vW vD vD_now z_vW_who vH_kinds z_vW_cells vH_sorts vH_doorOne vH_doorTwo vH_next z_vW_inFront vH_sizes vH_width)) 0 0 A := by
  refine Met.ofW (cc := cX8_meets) (maxL := 4) (ret := (some .int)) (by decide) rfl ?_
  intro p e s m args below meth c s₁ B hml hv
  obtain ⟨rfl, hsz, hP, hK, hD0, hN⟩ := hv
  have hx := B.exec
  have hb := B.bytes
  have hr := B.returns
  have ht0 : ∀ w ∈ W0, w.before _ s = true := fun w h => atoms_spec (ws := wsX8_meets) B.pre w (List.mem_cons_of_mem _ h)
  have hown : s.vm.findClass RX8 = some m.cls := findClass_of_methodNamed B.named
  have hlocks := B.notSynchronized
  subst hsz
  have hD : va_D A (wX8_meets cy aN qN aH qH qW aH0 qD aH aH0 vN vH vW vD vD_now vW_who vH_kinds vW_cells vH_sorts vH_doorOne vH_doorTwo vH_next vW_inFront vH_sizes vH_width) := by rw [← hAe]; exact hD0.self
  have hA : ∀ q : Nat, s.heap.size ≤ q → A q := fun q h => by rw [← hAe]; exact Or.inr h
  have hS : va_S A s.heap s.heap [] := va_S.rf
  have hl := lv_entry ([.ref aN, .int x1, .int x2]) (n := 4) (Nat.le_of_ble_eq_true rfl)
  rw [lg_entry_eq]
  generalize (lg_sl ([.ref aN, .int x1, .int x2]) ++ List.replicate (4 - (lg_sl ([.ref aN, .int x1, .int x2])).length) Slot.unset).toArray = ls at hl ⊢
  have hl : lv_has ls 4 [(0, .ref aN), (1, .int x1), (2, .int x2)] := hl
  generalize hQe : MQ below (kQi D cy zr A (wX8_meets cy aN qN aH qH qW aH0 qD aH z_aH0 z_vN vH z_vW vD vD_now z_vW_who vH_kinds z_vW_cells vH_sorts vH_doorOne vH_doorTwo vH_next z_vW_inFront vH_sizes vH_width)) ([.ref aN, .int x1, .int x2] : List Value).toArray s 0 0 A = Q
  have L33 : ∀ (fuel : Nat) (y3_33 : Int32) (vW_cells_33 : Nat → Int32) (vW_inFront_33 : Nat → Int32) (vW_who_33 : Nat → Int32) (vW_33 : Nat → Int32), ∀ (H : Heap) (locs : List Loc) (ls : Array Slot), va_P D vwCl (wX8_meets cy aN qN aH qH qW aH0 qD aH aH vN vH vW_33 vD vD_now vW_who_33 vH_kinds vW_cells_33 vH_sorts vH_doorOne vH_doorTwo vH_next vW_inFront_33 vH_sizes vH_width) H → va_D A (wX8_meets cy aN qN aH qH qW aH0 qD aH aH vN vH vW_33 vD vD_now vW_who_33 vH_kinds vW_cells_33 vH_sorts vH_doorOne vH_doorTwo vH_next vW_inFront_33 vH_sizes vH_width) → va_S A s.heap H locs → lv_has ls 4 [(0, .ref aN), (1, .int x1), (2, .int x2), (3, .int y3_33)] → lp (fX8_meets_B33 aH vN vH vH_kinds vH_doorOne vH_doorTwo vH_next vH_sizes vH_width x1 x2) fuel (y3_33, vW_cells_33, vW_inFront_33, vW_who_33, vW_33) = some (zr, z_vN, z_vW, z_vW_who, z_vW_cells, z_vW_inFront, z_aH0) → W p l e ({ frames := 3, cells := 0, slots := 0, locals := 73 } : Room) s m ([.ref aN, .int x1, .int x2] : List Value).toArray below meth c H locs 0 0 Q (F0 m 33 ls []) := by
    intro fuel
    induction fuel with
    | zero => intro y3_33 vW_cells_33 vW_inFront_33 vW_who_33 vW_33 H locs ls hP hD hS hl hok; exact (lp_0 hok).elim
    | succ fuel ih33 =>
      intro y3_33 vW_cells_33 vW_inFront_33 vW_who_33 vW_33 H locs ls hP hD hS hl hok
      obtain ⟨y33, hok, hL33, hR33⟩ := lp_step hok
      unfold fX8_meets_B33 at hok
      try dsimp only at hok
      refine lv_iload_n hx hb dX8_meets_33 rfl (lv_at hl 3 rfl) ?_
      refine lv_sipush (v := 200) hx hb dX8_meets_34 (by decide) ?_
      refine lv_icmp_gt (tgt := 72) hx hb dX8_meets_37 (by decide) (fun c37 => ?_) (fun c37 => ?_)
      · have hok := k_pos c37 hok
        obtain ⟨e33, hok, he33⟩ := ex_some hok
        have hok := hok.trans (congrArg some (hL33 _ he33))
        refine lv_aload_n hx hb dX8_meets_72 rfl (lv_at hl 0 rfl) ?_
        refine lv_bipush (v := -2) hx hb dX8_meets_73 (by decide) ?_
        obtain ⟨⟨r75, vN_75⟩, hc75, hok⟩ := k_bind hok
        try dsimp only at hok
        refine kCi (wc := (wX8_answer cy aN qN aH aH vN)) (wc2 := (wX8_answer cy aN qN aH aH vN_75)) (wr := [(aH, oX4 vH qH), (qN 2, oX6 vW_33 qW aH), (qN 1, oX1 vD qD), (qD 0, rI cy 9 vD_now), (qW 1, rI cy 36 vW_who_33), (qH 14, rI cy 7 vH_kinds), (qW 0, rI cy 7 vW_cells_33), (qH 8, rI cy 4 vH_sorts), (qH 12, rI cy 5 vH_doorOne), (qH 13, rI cy 5 vH_doorTwo), (qH 10, rI cy 36 vH_next), (qW 2, rI cy 7 vW_inFront_33), (qH 15, rI cy 7 vH_sizes), (qH 11, rI cy 36 vH_width)]) (ws2 := (wX8_meets cy aN qN aH qH qW aH0 qD aH aH vN_75 vH vW_33 vD vD_now vW_who_33 vH_kinds vW_cells_33 vH_sorts vH_doorOne vH_doorTwo vH_next vW_inFront_33 vH_sizes vH_width)) (kRunV (As := [.int (-2)]) (rest := []) ⟨hx, hb, hml, hown, ht0⟩ (kX8_answer l D cy _ aN qN aH vN (-2 : Int32) r75 vN_75 hc75 _ rfl) (cwV 1 ht0 (gV wd538 wd539 wd540 wd57 wd541) rfl rfl rfl (by decide +kernel) ⟨Nat.le_of_ble_eq_true rfl, Nat.le_of_ble_eq_true rfl⟩) hK hN hP hD [0] rfl (by decide) 0 7 rfl rfl rfl hl.1 rfl (Nat.le_of_ble_eq_true rfl) dX8_meets_75 ⟨Nat.zero_le _, Nat.zero_le _⟩) hP hD hS hA [0] [1, 2, 3, 4, 5, 6, 7, 8, 9, 10, 11, 12, 13, 14] rfl rfl (by decide) (by decide) [14, 0, 1, 2, 3, 4, 5, 6, 7, 8, 9, 10, 11, 12, 13] (by decide) rfl rfl (fun H locs hP hD hS => ?_)
        cases hok
        subst hQe; exact W.iret hx hb hr (fun t ht hW => ⟨⟨_, (), rfl, rfl, by rw [ht]; exact hP, va_K.moved hW.alike hK, hD⟩, hS.F ht⟩) hS.2.2 dX8_meets_78
      · have hok := k_neg c37 hok
        refine lv_aload_n hx hb dX8_meets_40 rfl (lv_at hl 0 rfl) ?_
        refine va_get (D := D) (ci := 7) (v := .ref (qN 2)) (C := RX8) (T := TX8) (N := 9) hx hb ht0 niX8 hown hK hP 0 rfl rfl 2 (by decide) (ht0 _ wd578) (fun _ h9 => h9) rfl dX8_meets_41 ?_
        refine lv_iload_n hx hb dX8_meets_44 rfl (lv_at hl 1 rfl) ?_
        refine lv_iload_n hx hb dX8_meets_45 rfl (lv_at hl 2 rfl) ?_
        obtain ⟨r46, hc46, hok⟩ := k_bind hok
        refine kCi (wc := (wX6_atDoor cy (qN 2) qW aH qH aH vW_33 vW_cells_33 vH vH_doorOne vH_doorTwo)) (wc2 := (wX6_atDoor cy (qN 2) qW aH qH aH vW_33 vW_cells_33 vH vH_doorOne vH_doorTwo)) (wr := [(aN, oX8 vN qN aH), (qN 1, oX1 vD qD), (qD 0, rI cy 9 vD_now), (qW 1, rI cy 36 vW_who_33), (qH 14, rI cy 7 vH_kinds), (qH 8, rI cy 4 vH_sorts), (qH 10, rI cy 36 vH_next), (qW 2, rI cy 7 vW_inFront_33), (qH 15, rI cy 7 vH_sizes), (qH 11, rI cy 36 vH_width)]) (ws2 := (wX8_meets cy aN qN aH qH qW aH0 qD aH aH vN vH vW_33 vD vD_now vW_who_33 vH_kinds vW_cells_33 vH_sorts vH_doorOne vH_doorTwo vH_next vW_inFront_33 vH_sizes vH_width)) (kRunV (As := [.int x1, .int x2]) (rest := []) ⟨hx, hb, hml, hown, ht0⟩ (kX6_atDoor l D cy _ (qN 2) qW aH qH vW_33 vW_cells_33 vH vH_doorOne vH_doorTwo x1 x2 r46 hc46 _ rfl) (cwV 2 ht0 (gV wd599 wd172 wd173 wd114 wd174) rfl rfl rfl (by decide +kernel) ⟨Nat.le_of_ble_eq_true rfl, Nat.le_of_ble_eq_true rfl⟩) hK hN hP hD [2, 7, 1, 9, 10] rfl (by decide) 2 5 rfl rfl rfl hl.1 rfl (Nat.le_of_ble_eq_true rfl) dX8_meets_46 ⟨Nat.zero_le _, Nat.zero_le _⟩) hP hD hS hA [2, 7, 1, 9, 10] [0, 3, 4, 5, 6, 8, 11, 12, 13, 14] rfl rfl (by decide) (by decide) [0, 12, 10, 1, 2, 3, 4, 11, 5, 13, 14, 6, 7, 8, 9] (by decide) rfl rfl (fun H locs hP hD hS => ?_)
        refine lv_if_eq (tgt := 58) hx hb dX8_meets_49 (by decide) (fun c49 => ?_) (fun c49 => ?_)
        · have hok := k_pos c49 hok
          refine lv_aload_n hx hb dX8_meets_58 rfl (lv_at hl 0 rfl) ?_
          refine va_get (D := D) (ci := 7) (v := .ref (qN 2)) (C := RX8) (T := TX8) (N := 9) hx hb ht0 niX8 hown hK hP 0 rfl rfl 2 (by decide) (ht0 _ wd578) (fun _ h9 => h9) rfl dX8_meets_59 ?_
          refine lv_iconst (v := 0) hx hb dX8_meets_62 (by decide) ?_
          obtain ⟨⟨vW_63, vW_cells_63, vW_who_63, vW_inFront_63⟩, hc63, hok⟩ := k_bind hok
          try dsimp only at hok
          refine kCv (wc := (wX6_pass cy (qN 2) qW aH qH aH vW_33 vH vW_cells_33 vH_next vW_who_33 vW_inFront_33 vH_sizes vH_width vH_kinds)) (wc2 := (wX6_pass cy (qN 2) qW aH qH aH vW_63 vH vW_cells_63 vH_next vW_who_63 vW_inFront_63 vH_sizes vH_width vH_kinds)) (wr := [(aN, oX8 vN qN aH), (qN 1, oX1 vD qD), (qD 0, rI cy 9 vD_now), (qH 8, rI cy 4 vH_sorts), (qH 12, rI cy 5 vH_doorOne), (qH 13, rI cy 5 vH_doorTwo)]) (ws2 := (wX8_meets cy aN qN aH qH qW aH0 qD aH aH vN vH vW_63 vD vD_now vW_who_63 vH_kinds vW_cells_63 vH_sorts vH_doorOne vH_doorTwo vH_next vW_inFront_63 vH_sizes vH_width)) (kRunV (As := [.int 0]) (rest := []) ⟨hx, hb, hml, hown, ht0⟩ (kX6_pass l D cy _ (qN 2) qW aH qH vW_33 vH vW_cells_33 vH_next vW_who_33 vW_inFront_33 vH_sizes vH_width vH_kinds (0 : Int32) vW_63 vW_cells_63 vW_who_63 vW_inFront_63 hc63 _ rfl) (cwV 1 ht0 (gV wd598 wd155 wd156 wd114 wd157) rfl rfl rfl (by decide +kernel) ⟨Nat.le_of_ble_eq_true rfl, Nat.le_of_ble_eq_true rfl⟩) hK hN hP hD [2, 1, 7, 11, 5, 12, 13, 14, 6] rfl (by decide) 2 5 rfl rfl rfl hl.1 rfl (Nat.le_of_ble_eq_true rfl) dX8_meets_63 ⟨Nat.zero_le _, Nat.zero_le _⟩) hP hD hS hA [2, 1, 7, 11, 5, 12, 13, 14, 6] [0, 3, 4, 8, 9, 10] rfl rfl (by decide) (by decide) [0, 7, 6, 1, 2, 10, 14, 8, 3, 4, 5, 9, 11, 12, 13] (by decide) rfl rfl (fun H locs hP hD hS => ?_)
          refine lv_iinc (v := (y3_33 + 1)) (lv' := [(3, .int (y3_33 + 1)), (0, .ref aN), (1, .int x1), (2, .int x2)]) hx hb dX8_meets_66 hl (k := 3) rfl (by first | rfl | decide) (by decide) rfl (fun ls hl => ?_)
          refine lv_goto (tgt := 33) hx hb dX8_meets_69 (by decide) ?_
          exact ih33 (y3_33 + 1) vW_cells_63 vW_inFront_63 vW_who_63 vW_63 H locs ls hP hD hS (lv_sub hl [1, 2, 3, 0] rfl) (hR33 _ (Option.some.inj hok).symm)
        · have hok := k_neg c49 hok
          obtain ⟨e33, hok, he33⟩ := ex_some hok
          have hok := hok.trans (congrArg some (hL33 _ he33))
          refine lv_aload_n hx hb dX8_meets_52 rfl (lv_at hl 0 rfl) ?_
          refine lv_iload_n hx hb dX8_meets_53 rfl (lv_at hl 3 rfl) ?_
          obtain ⟨⟨r54, vN_54⟩, hc54, hok⟩ := k_bind hok
          try dsimp only at hok
          refine kCi (wc := (wX8_answer cy aN qN aH aH vN)) (wc2 := (wX8_answer cy aN qN aH aH vN_54)) (wr := [(aH, oX4 vH qH), (qN 2, oX6 vW_33 qW aH), (qN 1, oX1 vD qD), (qD 0, rI cy 9 vD_now), (qW 1, rI cy 36 vW_who_33), (qH 14, rI cy 7 vH_kinds), (qW 0, rI cy 7 vW_cells_33), (qH 8, rI cy 4 vH_sorts), (qH 12, rI cy 5 vH_doorOne), (qH 13, rI cy 5 vH_doorTwo), (qH 10, rI cy 36 vH_next), (qW 2, rI cy 7 vW_inFront_33), (qH 15, rI cy 7 vH_sizes), (qH 11, rI cy 36 vH_width)]) (ws2 := (wX8_meets cy aN qN aH qH qW aH0 qD aH aH vN_54 vH vW_33 vD vD_now vW_who_33 vH_kinds vW_cells_33 vH_sorts vH_doorOne vH_doorTwo vH_next vW_inFront_33 vH_sizes vH_width)) (kRunV (As := [.int y3_33]) (rest := []) ⟨hx, hb, hml, hown, ht0⟩ (kX8_answer l D cy _ aN qN aH vN y3_33 r54 vN_54 hc54 _ rfl) (cwV 1 ht0 (gV wd538 wd539 wd540 wd57 wd541) rfl rfl rfl (by decide +kernel) ⟨Nat.le_of_ble_eq_true rfl, Nat.le_of_ble_eq_true rfl⟩) hK hN hP hD [0] rfl (by decide) 0 7 rfl rfl rfl hl.1 rfl (Nat.le_of_ble_eq_true rfl) dX8_meets_54 ⟨Nat.zero_le _, Nat.zero_le _⟩) hP hD hS hA [0] [1, 2, 3, 4, 5, 6, 7, 8, 9, 10, 11, 12, 13, 14] rfl rfl (by decide) (by decide) [14, 0, 1, 2, 3, 4, 5, 6, 7, 8, 9, 10, 11, 12, 13] (by decide) rfl rfl (fun H locs hP hD hS => ?_)
          cases hok
          subst hQe; exact W.iret hx hb hr (fun t ht hW => ⟨⟨_, (), rfl, rfl, by rw [ht]; exact hP, va_K.moved hW.alike hK, hD⟩, hS.F ht⟩) hS.2.2 dX8_meets_57
  unfold fX8_meets at hok
  obtain ⟨H, hH⟩ : ∃ H, H = s.heap := ⟨_, rfl⟩
  obtain ⟨locs, hlc⟩ : ∃ x : List Loc, x = [] := ⟨_, rfl⟩
  have hP : va_P D vwCl (wX8_meets cy aN qN aH qH qW aH0 qD aH aH0 vN vH vW vD vD_now vW_who vH_kinds vW_cells vH_sorts vH_doorOne vH_doorTwo vH_next vW_inFront vH_sizes vH_width) H := by rw [hH]; exact hP
  have hS : va_S A s.heap H locs := by rw [hH, hlc]; exact hS
  rw [show W p l e _ s m _ below meth c s.heap [] = W p l e _ s m _ below meth c H locs from by rw [hH, hlc]]
  refine lv_aload_n hx hb dX8_meets_0 rfl (lv_at hl 0 rfl) ?_
  refine lv_iload_n hx hb dX8_meets_1 rfl (lv_at hl 1 rfl) ?_
  refine lv_iload_n hx hb dX8_meets_2 rfl (lv_at hl 2 rfl) ?_
  obtain ⟨r3, hc3, hok⟩ := k_bind hok
  refine kCi (wc := (wX8_areTwo cy aN qN aH qH aH vN vH)) (wc2 := (wX8_areTwo cy aN qN aH qH aH vN vH)) (wr := [(qN 2, oX6 vW qW aH0), (qN 1, oX1 vD qD), (qD 0, rI cy 9 vD_now), (qW 1, rI cy 36 vW_who), (qH 14, rI cy 7 vH_kinds), (qW 0, rI cy 7 vW_cells), (qH 8, rI cy 4 vH_sorts), (qH 12, rI cy 5 vH_doorOne), (qH 13, rI cy 5 vH_doorTwo), (qH 10, rI cy 36 vH_next), (qW 2, rI cy 7 vW_inFront), (qH 15, rI cy 7 vH_sizes), (qH 11, rI cy 36 vH_width)]) (ws2 := (wX8_meets cy aN qN aH qH qW aH0 qD aH aH0 vN vH vW vD vD_now vW_who vH_kinds vW_cells vH_sorts vH_doorOne vH_doorTwo vH_next vW_inFront vH_sizes vH_width)) (kRunV (As := [.int x1, .int x2]) (rest := []) ⟨hx, hb, hml, hown, ht0⟩ (kX8_areTwo l D cy _ aN qN aH qH vN vH x1 x2 r3 hc3 _ rfl) (cwV 2 ht0 (gV wd600 wd601 wd602 wd57 wd603) rfl rfl rfl (by decide +kernel) ⟨Nat.le_of_ble_eq_true rfl, Nat.le_of_ble_eq_true rfl⟩) hK hN hP hD [0, 1] rfl (by decide) 0 7 rfl rfl rfl hl.1 rfl (Nat.le_of_ble_eq_true rfl) dX8_meets_3 ⟨Nat.zero_le _, Nat.zero_le _⟩) hP hD hS hA [0, 1] [2, 3, 4, 5, 6, 7, 8, 9, 10, 11, 12, 13, 14] rfl rfl (by decide) (by decide) [13, 14, 0, 1, 2, 3, 4, 5, 6, 7, 8, 9, 10, 11, 12] (by decide) rfl rfl (fun H locs hP hD hS => ?_)
  refine lv_if_ne (tgt := 15) hx hb dX8_meets_6 (by decide) (fun c6 => ?_) (fun c6 => ?_)
  · have hok := k_neg c6 hok
    refine lv_aload_n hx hb dX8_meets_15 rfl (lv_at hl 0 rfl) ?_
    refine va_get (D := D) (ci := 7) (v := .ref (qN 2)) (C := RX8) (T := TX8) (N := 9) hx hb ht0 niX8 hown hK hP 0 rfl rfl 2 (by decide) (ht0 _ wd578) (fun _ h9 => h9) rfl dX8_meets_16 ?_
    refine lv_aload_n hx hb dX8_meets_19 rfl (lv_at hl 0 rfl) ?_
    refine va_get (D := D) (ci := 7) (v := .ref aH) (C := RX8) (T := TX8) (N := 9) hx hb ht0 niX8 hown hK hP 0 rfl rfl 5 (by decide) (ht0 _ wd522) (fun _ h9 => h9) rfl dX8_meets_20 ?_
    refine lv_aload_n hx hb dX8_meets_23 rfl (lv_at hl 0 rfl) ?_
    refine va_get (D := D) (ci := 7) (v := .ref (qN 1)) (C := RX8) (T := TX8) (N := 9) hx hb ht0 niX8 hown hK hP 0 rfl rfl 1 (by decide) (ht0 _ wd527) (fun _ h9 => h9) rfl dX8_meets_24 ?_
    refine lv_iconst (v := 0) hx hb dX8_meets_27 (by decide) ?_
    obtain ⟨⟨vW_28, vW_who_28, vW_cells_28⟩, hc28, hok⟩ := k_bind hok
    try dsimp only at hok
    refine kCv (wc := (wX6_start cy (qN 2) aH (qN 1) qW aH0 qD qH aH0 vW vD vD_now vW_who vH vH_kinds vW_cells vH_sorts)) (wc2 := (wX6_start cy (qN 2) aH (qN 1) qW aH0 qD qH aH vW_28 vD vD_now vW_who_28 vH vH_kinds vW_cells_28 vH_sorts)) (wr := [(aN, oX8 vN qN aH), (qH 12, rI cy 5 vH_doorOne), (qH 13, rI cy 5 vH_doorTwo), (qH 10, rI cy 36 vH_next), (qW 2, rI cy 7 vW_inFront), (qH 15, rI cy 7 vH_sizes), (qH 11, rI cy 36 vH_width)]) (ws2 := (wX8_meets cy aN qN aH qH qW aH0 qD aH aH vN vH vW_28 vD vD_now vW_who_28 vH_kinds vW_cells_28 vH_sorts vH_doorOne vH_doorTwo vH_next vW_inFront vH_sizes vH_width)) (kRunV (As := [.ref aH, .ref (qN 1), .int 0]) (rest := []) ⟨hx, hb, hml, hown, ht0⟩ (kX6_start l D cy _ (qN 2) aH (qN 1) qW aH0 qD qH vW vD vD_now vW_who vH vH_kinds vW_cells vH_sorts (0 : Int32) vW_28 vW_who_28 vW_cells_28 hc28 _ rfl) (cwV 3 ht0 (gV wd579 wd181 wd182 wd114 wd183) rfl rfl rfl (by decide +kernel) ⟨Nat.le_of_ble_eq_true rfl, Nat.le_of_ble_eq_true rfl⟩) hK hN hP hD [2, 3, 4, 5, 1, 6, 7, 8] rfl (by decide) 2 5 rfl rfl rfl hl.1 rfl (Nat.le_of_ble_eq_true rfl) dX8_meets_28 ⟨Nat.zero_le _, Nat.zero_le _⟩) hP hD hS hA [2, 3, 4, 5, 1, 6, 7, 8] [0, 9, 10, 11, 12, 13, 14] rfl rfl (by decide) (by decide) [0, 11, 7, 8, 9, 10, 12, 13, 14, 1, 2, 3, 4, 5, 6] (by decide) rfl rfl (fun H locs hP hD hS => ?_)
    refine lv_iconst (v := 0) hx hb dX8_meets_31 (by decide) ?_
    refine lv_istore_n (lv' := [(3, .int 0), (0, .ref aN), (1, .int x1), (2, .int x2)]) hx hb dX8_meets_32 rfl hl (by decide) rfl (fun ls hl => ?_)
    exact L33 5000 (0 : Int32) vW_cells_28 vW_inFront vW_who_28 vW_28 H locs ls hP hD hS (lv_sub hl [1, 2, 3, 0] rfl) hok
  · have hok := k_pos c6 hok
    refine lv_aload_n hx hb dX8_meets_9 rfl (lv_at hl 0 rfl) ?_
    refine lv_iconst (v := 1) hx hb dX8_meets_10 (by decide) ?_
    obtain ⟨⟨r11, vN_11⟩, hc11, hok⟩ := k_bind hok
    try dsimp only at hok
    refine kCi (wc := (wX8_refuse cy aN qN aH aH vN)) (wc2 := (wX8_refuse cy aN qN aH aH vN_11)) (wr := [(aH, oX4 vH qH), (qN 2, oX6 vW qW aH0), (qN 1, oX1 vD qD), (qD 0, rI cy 9 vD_now), (qW 1, rI cy 36 vW_who), (qH 14, rI cy 7 vH_kinds), (qW 0, rI cy 7 vW_cells), (qH 8, rI cy 4 vH_sorts), (qH 12, rI cy 5 vH_doorOne), (qH 13, rI cy 5 vH_doorTwo), (qH 10, rI cy 36 vH_next), (qW 2, rI cy 7 vW_inFront), (qH 15, rI cy 7 vH_sizes), (qH 11, rI cy 36 vH_width)]) (ws2 := (wX8_meets cy aN qN aH qH qW aH0 qD aH aH0 vN_11 vH vW vD vD_now vW_who vH_kinds vW_cells vH_sorts vH_doorOne vH_doorTwo vH_next vW_inFront vH_sizes vH_width)) (kRunV (As := [.int 1]) (rest := []) ⟨hx, hb, hml, hown, ht0⟩ (kX8_refuse l D cy _ aN qN aH vN (1 : Int32) r11 vN_11 hc11 _ rfl) (cwV 1 ht0 (gV wd504 wd505 wd506 wd57 wd507) rfl rfl rfl (by decide +kernel) ⟨Nat.le_of_ble_eq_true rfl, Nat.le_of_ble_eq_true rfl⟩) hK hN hP hD [0] rfl (by decide) 0 7 rfl rfl rfl hl.1 rfl (Nat.le_of_ble_eq_true rfl) dX8_meets_11 ⟨Nat.zero_le _, Nat.zero_le _⟩) hP hD hS hA [0] [1, 2, 3, 4, 5, 6, 7, 8, 9, 10, 11, 12, 13, 14] rfl rfl (by decide) (by decide) [14, 0, 1, 2, 3, 4, 5, 6, 7, 8, 9, 10, 11, 12, 13] (by decide) rfl rfl (fun H locs hP hD hS => ?_)
    cases hok
    subst hQe; exact W.iret hx hb hr (fun t ht hW => ⟨⟨_, (), rfl, rfl, by rw [ht]; exact hP, va_K.moved hW.alike hK, hD⟩, hS.F ht⟩) hS.2.2 dX8_meets_14
def wsX8_still : List Cond := .code yX8_still cX8_still 2 (some .int) :: W0
abbrev wX8_still (cy : Nat → ClassId) (aN : Nat) (qN : Nat → Nat) (aH : Nat) (qH : Nat → Nat) (qW : Nat → Nat) (aH0 : Nat) (qD : Nat → Nat) (fvN_5 : Nat) (fvW_4 : Nat) (vN : Nat → Int32) (vH : Nat → Int32) (vW : Nat → Int32) (vD : Nat → Int32) (vD_now : Nat → Int32) (vW_who : Nat → Int32) (vH_kinds : Nat → Int32) (vW_cells : Nat → Int32) (vH_sorts : Nat → Int32) (vH_next : Nat → Int32) (vW_inFront : Nat → Int32) (vH_sizes : Nat → Int32) (vH_width : Nat → Int32) : va_W := [(aN, oX8 vN qN fvN_5), (aH, oX4 vH qH), (qN 2, oX6 vW qW fvW_4), (qN 1, oX1 vD qD), (qD 0, rI cy 9 vD_now), (qW 1, rI cy 36 vW_who), (qH 14, rI cy 7 vH_kinds), (qW 0, rI cy 7 vW_cells), (qH 8, rI cy 4 vH_sorts), (qH 10, rI cy 36 vH_next), (qW 2, rI cy 7 vW_inFront), (qH 15, rI cy 7 vH_sizes), (qH 11, rI cy 36 vH_width)]
set_option maxHeartbeats 4000000 in
set_option maxRecDepth 100000 in
theorem kX8_still (l : Launch) (D : va_G) (cy : Nat → ClassId) (sz : Nat) (aN : Nat) (qN : Nat → Nat) (aH : Nat) (qH : Nat → Nat) (qW : Nat → Nat) (aH0 : Nat) (qD : Nat → Nat) (vN : Nat → Int32) (vH : Nat → Int32) (vW : Nat → Int32) (vD : Nat → Int32) (vD_now : Nat → Int32) (vW_who : Nat → Int32) (vH_kinds : Nat → Int32) (vW_cells : Nat → Int32) (vH_sorts : Nat → Int32) (vH_next : Nat → Int32) (vW_inFront : Nat → Int32) (vH_sizes : Nat → Int32) (vH_width : Nat → Int32) (zr : Int32) (z_vN : Nat → Int32) (z_vW : Nat → Int32) (z_vW_who : Nat → Int32) (z_vW_cells : Nat → Int32) (z_vW_inFront : Nat → Int32) (z_aH0 : Nat) (hok : fX8_still aH aH0 vN vH vW vD vD_now vW_who vH_kinds vW_cells vH_sorts vH_next vW_inFront vH_sizes vH_width = some (zr, z_vN, z_vW, z_vW_who, z_vW_cells, z_vW_inFront, z_aH0)) (A : Nat → Prop) (hAe : va_A (wX8_still cy aN qN aH qH qW aH0 qD aH aH0 vN vH vW vD vD_now vW_who vH_kinds vW_cells vH_sorts vH_next vW_inFront vH_sizes vH_width) sz = A) : Met l yX8_still wsX8_still ({ frames := 3, cells := 0, slots := 0, locals := 73 } : Room) (kPre D cy [.ref aN] (wX8_still cy aN qN aH qH qW aH0 qD aH aH0 vN vH vW vD vD_now vW_who vH_kinds vW_cells vH_sorts vH_next vW_inFront vH_sizes vH_width) sz) (kQi D cy zr A (wX8_still cy aN qN aH qH qW aH0 qD aH z_aH0 z_vN vH z_vW vD vD_now z_vW_who vH_kinds z_vW_cells vH_sorts vH_next z_vW_inFront vH_sizes vH_width)) 0 0 A := by
  refine Met.ofW (cc := cX8_still) (maxL := 2) (ret := (some .int)) (by decide) rfl ?_
  intro p e s m args below meth c s₁ B hml hv
  obtain ⟨rfl, hsz, hP, hK, hD0, hN⟩ := hv
  have hx := B.exec
  have hb := B.bytes
  have hr := B.returns
  have ht0 : ∀ w ∈ W0, w.before _ s = true := fun w h => atoms_spec (ws := wsX8_still) B.pre w (List.mem_cons_of_mem _ h)
  have hown : s.vm.findClass RX8 = some m.cls := findClass_of_methodNamed B.named
  have hlocks := B.notSynchronized
  subst hsz
  have hD : va_D A (wX8_still cy aN qN aH qH qW aH0 qD aH aH0 vN vH vW vD vD_now vW_who vH_kinds vW_cells vH_sorts vH_next vW_inFront vH_sizes vH_width) := by rw [← hAe]; exact hD0.self
  have hA : ∀ q : Nat, s.heap.size ≤ q → A q := fun q h => by rw [← hAe]; exact Or.inr h
  have hS : va_S A s.heap s.heap [] := va_S.rf
  have hl := lv_entry ([.ref aN]) (n := 2) (Nat.le_of_ble_eq_true rfl)
  rw [lg_entry_eq]
  generalize (lg_sl ([.ref aN]) ++ List.replicate (2 - (lg_sl ([.ref aN])).length) Slot.unset).toArray = ls at hl ⊢
  have hl : lv_has ls 2 [(0, .ref aN)] := hl
  generalize hQe : MQ below (kQi D cy zr A (wX8_still cy aN qN aH qH qW aH0 qD aH z_aH0 z_vN vH z_vW vD vD_now z_vW_who vH_kinds z_vW_cells vH_sorts vH_next z_vW_inFront vH_sizes vH_width)) ([.ref aN] : List Value).toArray s 0 0 A = Q
  have L34 : ∀ (fuel : Nat) (y1_34 : Int32) (vW_cells_34 : Nat → Int32) (vW_inFront_34 : Nat → Int32) (vW_who_34 : Nat → Int32) (vW_34 : Nat → Int32), ∀ (H : Heap) (locs : List Loc) (ls : Array Slot), va_P D vwCl (wX8_still cy aN qN aH qH qW aH0 qD aH aH vN vH vW_34 vD vD_now vW_who_34 vH_kinds vW_cells_34 vH_sorts vH_next vW_inFront_34 vH_sizes vH_width) H → va_D A (wX8_still cy aN qN aH qH qW aH0 qD aH aH vN vH vW_34 vD vD_now vW_who_34 vH_kinds vW_cells_34 vH_sorts vH_next vW_inFront_34 vH_sizes vH_width) → va_S A s.heap H locs → lv_has ls 2 [(0, .ref aN), (1, .int y1_34)] → lp (fX8_still_B34 aH vN vH vH_kinds vH_next vH_sizes vH_width) fuel (y1_34, vW_cells_34, vW_inFront_34, vW_who_34, vW_34) = some (zr, z_vN, z_vW, z_vW_who, z_vW_cells, z_vW_inFront, z_aH0) → W p l e ({ frames := 3, cells := 0, slots := 0, locals := 73 } : Room) s m ([.ref aN] : List Value).toArray below meth c H locs 0 0 Q (F0 m 34 ls []) := by
    intro fuel
    induction fuel with
    | zero => intro y1_34 vW_cells_34 vW_inFront_34 vW_who_34 vW_34 H locs ls hP hD hS hl hok; exact (lp_0 hok).elim
    | succ fuel ih34 =>
      intro y1_34 vW_cells_34 vW_inFront_34 vW_who_34 vW_34 H locs ls hP hD hS hl hok
      obtain ⟨y34, hok, hL34, hR34⟩ := lp_step hok
      unfold fX8_still_B34 at hok
      try dsimp only at hok
      refine lv_iload_n hx hb dX8_still_34 rfl (lv_at hl 1 rfl) ?_
      refine lv_sipush (v := 200) hx hb dX8_still_35 (by decide) ?_
      refine lv_icmp_gt (tgt := 71) hx hb dX8_still_38 (by decide) (fun c38 => ?_) (fun c38 => ?_)
      · have hok := k_pos c38 hok
        obtain ⟨e34, hok, he34⟩ := ex_some hok
        have hok := hok.trans (congrArg some (hL34 _ he34))
        refine lv_aload_n hx hb dX8_still_71 rfl (lv_at hl 0 rfl) ?_
        refine lv_bipush (v := -2) hx hb dX8_still_72 (by decide) ?_
        obtain ⟨⟨r74, vN_74⟩, hc74, hok⟩ := k_bind hok
        try dsimp only at hok
        refine kCi (wc := (wX8_answer cy aN qN aH aH vN)) (wc2 := (wX8_answer cy aN qN aH aH vN_74)) (wr := [(aH, oX4 vH qH), (qN 2, oX6 vW_34 qW aH), (qN 1, oX1 vD qD), (qD 0, rI cy 9 vD_now), (qW 1, rI cy 36 vW_who_34), (qH 14, rI cy 7 vH_kinds), (qW 0, rI cy 7 vW_cells_34), (qH 8, rI cy 4 vH_sorts), (qH 10, rI cy 36 vH_next), (qW 2, rI cy 7 vW_inFront_34), (qH 15, rI cy 7 vH_sizes), (qH 11, rI cy 36 vH_width)]) (ws2 := (wX8_still cy aN qN aH qH qW aH0 qD aH aH vN_74 vH vW_34 vD vD_now vW_who_34 vH_kinds vW_cells_34 vH_sorts vH_next vW_inFront_34 vH_sizes vH_width)) (kRunV (As := [.int (-2)]) (rest := []) ⟨hx, hb, hml, hown, ht0⟩ (kX8_answer l D cy _ aN qN aH vN (-2 : Int32) r74 vN_74 hc74 _ rfl) (cwV 1 ht0 (gV wd538 wd539 wd540 wd57 wd541) rfl rfl rfl (by decide +kernel) ⟨Nat.le_of_ble_eq_true rfl, Nat.le_of_ble_eq_true rfl⟩) hK hN hP hD [0] rfl (by decide) 0 7 rfl rfl rfl hl.1 rfl (Nat.le_of_ble_eq_true rfl) dX8_still_74 ⟨Nat.zero_le _, Nat.zero_le _⟩) hP hD hS hA [0] [1, 2, 3, 4, 5, 6, 7, 8, 9, 10, 11, 12] rfl rfl (by decide) (by decide) [12, 0, 1, 2, 3, 4, 5, 6, 7, 8, 9, 10, 11] (by decide) rfl rfl (fun H locs hP hD hS => ?_)
        cases hok
        subst hQe; exact W.iret hx hb hr (fun t ht hW => ⟨⟨_, (), rfl, rfl, by rw [ht]; exact hP, va_K.moved hW.alike hK, hD⟩, hS.F ht⟩) hS.2.2 dX8_still_77
      · have hok := k_neg c38 hok
        refine lv_aload_n hx hb dX8_still_41 rfl (lv_at hl 0 rfl) ?_
        refine va_get (D := D) (ci := 7) (v := .ref (qN 2)) (C := RX8) (T := TX8) (N := 9) hx hb ht0 niX8 hown hK hP 0 rfl rfl 2 (by decide) (ht0 _ wd578) (fun _ h9 => h9) rfl dX8_still_42 ?_
        refine lv_iconst (v := 0) hx hb dX8_still_45 (by decide) ?_
        obtain ⟨⟨vW_46, vW_cells_46, vW_who_46, vW_inFront_46⟩, hc46, hok⟩ := k_bind hok
        try dsimp only at hok
        refine kCv (wc := (wX6_pass cy (qN 2) qW aH qH aH vW_34 vH vW_cells_34 vH_next vW_who_34 vW_inFront_34 vH_sizes vH_width vH_kinds)) (wc2 := (wX6_pass cy (qN 2) qW aH qH aH vW_46 vH vW_cells_46 vH_next vW_who_46 vW_inFront_46 vH_sizes vH_width vH_kinds)) (wr := [(aN, oX8 vN qN aH), (qN 1, oX1 vD qD), (qD 0, rI cy 9 vD_now), (qH 8, rI cy 4 vH_sorts)]) (ws2 := (wX8_still cy aN qN aH qH qW aH0 qD aH aH vN vH vW_46 vD vD_now vW_who_46 vH_kinds vW_cells_46 vH_sorts vH_next vW_inFront_46 vH_sizes vH_width)) (kRunV (As := [.int 0]) (rest := []) ⟨hx, hb, hml, hown, ht0⟩ (kX6_pass l D cy _ (qN 2) qW aH qH vW_34 vH vW_cells_34 vH_next vW_who_34 vW_inFront_34 vH_sizes vH_width vH_kinds (0 : Int32) vW_46 vW_cells_46 vW_who_46 vW_inFront_46 hc46 _ rfl) (cwV 1 ht0 (gV wd598 wd155 wd156 wd114 wd157) rfl rfl rfl (by decide +kernel) ⟨Nat.le_of_ble_eq_true rfl, Nat.le_of_ble_eq_true rfl⟩) hK hN hP hD [2, 1, 7, 9, 5, 10, 11, 12, 6] rfl (by decide) 2 5 rfl rfl rfl hl.1 rfl (Nat.le_of_ble_eq_true rfl) dX8_still_46 ⟨Nat.zero_le _, Nat.zero_le _⟩) hP hD hS hA [2, 1, 7, 9, 5, 10, 11, 12, 6] [0, 3, 4, 8] rfl rfl (by decide) (by decide) [0, 5, 4, 1, 2, 8, 12, 6, 3, 7, 9, 10, 11] (by decide) rfl rfl (fun H locs hP hD hS => ?_)
        refine lv_aload_n hx hb dX8_still_49 rfl (lv_at hl 0 rfl) ?_
        refine va_get (D := D) (ci := 7) (v := .ref (qN 2)) (C := RX8) (T := TX8) (N := 9) hx hb ht0 niX8 hown hK hP 0 rfl rfl 2 (by decide) (ht0 _ wd578) (fun _ h9 => h9) rfl dX8_still_50 ?_
        obtain ⟨r53, hc53, hok⟩ := k_bind hok
        refine kCi (wc := (wX6_went cy (qN 2) qW aH aH vW_46)) (wc2 := (wX6_went cy (qN 2) qW aH aH vW_46)) (wr := [(aN, oX8 vN qN aH), (aH, oX4 vH qH), (qN 1, oX1 vD qD), (qD 0, rI cy 9 vD_now), (qW 1, rI cy 36 vW_who_46), (qH 14, rI cy 7 vH_kinds), (qW 0, rI cy 7 vW_cells_46), (qH 8, rI cy 4 vH_sorts), (qH 10, rI cy 36 vH_next), (qW 2, rI cy 7 vW_inFront_46), (qH 15, rI cy 7 vH_sizes), (qH 11, rI cy 36 vH_width)]) (ws2 := (wX8_still cy aN qN aH qH qW aH0 qD aH aH vN vH vW_46 vD vD_now vW_who_46 vH_kinds vW_cells_46 vH_sorts vH_next vW_inFront_46 vH_sizes vH_width)) (kRunV (As := []) (rest := []) ⟨hx, hb, hml, hown, ht0⟩ (kX6_went l D cy _ (qN 2) qW aH vW_46 r53 hc53 _ rfl) (cwV 0 ht0 (gV wd581 wd582 wd583 wd114 wd584) rfl rfl rfl (by decide +kernel) ⟨Nat.le_of_ble_eq_true rfl, Nat.le_of_ble_eq_true rfl⟩) hK hN hP hD [2] rfl (by decide) 2 5 rfl rfl rfl hl.1 rfl (Nat.le_of_ble_eq_true rfl) dX8_still_53 ⟨Nat.zero_le _, Nat.zero_le _⟩) hP hD hS hA [2] [0, 1, 3, 4, 5, 6, 7, 8, 9, 10, 11, 12] rfl rfl (by decide) (by decide) [0, 1, 12, 2, 3, 4, 5, 6, 7, 8, 9, 10, 11] (by decide) rfl rfl (fun H locs hP hD hS => ?_)
        refine lv_if_ne (tgt := 65) hx hb dX8_still_56 (by decide) (fun c56 => ?_) (fun c56 => ?_)
        · have hok := k_neg c56 hok
          refine lv_iinc (v := (y1_34 + 1)) (lv' := [(1, .int (y1_34 + 1)), (0, .ref aN)]) hx hb dX8_still_65 hl (k := 1) rfl (by first | rfl | decide) (by decide) rfl (fun ls hl => ?_)
          refine lv_goto (tgt := 34) hx hb dX8_still_68 (by decide) ?_
          exact ih34 (y1_34 + 1) vW_cells_46 vW_inFront_46 vW_who_46 vW_46 H locs ls hP hD hS (lv_sub hl [1, 0] rfl) (hR34 _ (Option.some.inj hok).symm)
        · have hok := k_pos c56 hok
          obtain ⟨e34, hok, he34⟩ := ex_some hok
          have hok := hok.trans (congrArg some (hL34 _ he34))
          refine lv_aload_n hx hb dX8_still_59 rfl (lv_at hl 0 rfl) ?_
          refine lv_iload_n hx hb dX8_still_60 rfl (lv_at hl 1 rfl) ?_
          obtain ⟨⟨r61, vN_61⟩, hc61, hok⟩ := k_bind hok
          try dsimp only at hok
          refine kCi (wc := (wX8_answer cy aN qN aH aH vN)) (wc2 := (wX8_answer cy aN qN aH aH vN_61)) (wr := [(aH, oX4 vH qH), (qN 2, oX6 vW_46 qW aH), (qN 1, oX1 vD qD), (qD 0, rI cy 9 vD_now), (qW 1, rI cy 36 vW_who_46), (qH 14, rI cy 7 vH_kinds), (qW 0, rI cy 7 vW_cells_46), (qH 8, rI cy 4 vH_sorts), (qH 10, rI cy 36 vH_next), (qW 2, rI cy 7 vW_inFront_46), (qH 15, rI cy 7 vH_sizes), (qH 11, rI cy 36 vH_width)]) (ws2 := (wX8_still cy aN qN aH qH qW aH0 qD aH aH vN_61 vH vW_46 vD vD_now vW_who_46 vH_kinds vW_cells_46 vH_sorts vH_next vW_inFront_46 vH_sizes vH_width)) (kRunV (As := [.int y1_34]) (rest := []) ⟨hx, hb, hml, hown, ht0⟩ (kX8_answer l D cy _ aN qN aH vN y1_34 r61 vN_61 hc61 _ rfl) (cwV 1 ht0 (gV wd538 wd539 wd540 wd57 wd541) rfl rfl rfl (by decide +kernel) ⟨Nat.le_of_ble_eq_true rfl, Nat.le_of_ble_eq_true rfl⟩) hK hN hP hD [0] rfl (by decide) 0 7 rfl rfl rfl hl.1 rfl (Nat.le_of_ble_eq_true rfl) dX8_still_61 ⟨Nat.zero_le _, Nat.zero_le _⟩) hP hD hS hA [0] [1, 2, 3, 4, 5, 6, 7, 8, 9, 10, 11, 12] rfl rfl (by decide) (by decide) [12, 0, 1, 2, 3, 4, 5, 6, 7, 8, 9, 10, 11] (by decide) rfl rfl (fun H locs hP hD hS => ?_)
          cases hok
          subst hQe; exact W.iret hx hb hr (fun t ht hW => ⟨⟨_, (), rfl, rfl, by rw [ht]; exact hP, va_K.moved hW.alike hK, hD⟩, hS.F ht⟩) hS.2.2 dX8_still_64
  unfold fX8_still at hok
  obtain ⟨H, hH⟩ : ∃ H, H = s.heap := ⟨_, rfl⟩
  obtain ⟨locs, hlc⟩ : ∃ x : List Loc, x = [] := ⟨_, rfl⟩
  have hP : va_P D vwCl (wX8_still cy aN qN aH qH qW aH0 qD aH aH0 vN vH vW vD vD_now vW_who vH_kinds vW_cells vH_sorts vH_next vW_inFront vH_sizes vH_width) H := by rw [hH]; exact hP
  have hS : va_S A s.heap H locs := by rw [hH, hlc]; exact hS
  rw [show W p l e _ s m _ below meth c s.heap [] = W p l e _ s m _ below meth c H locs from by rw [hH, hlc]]
  refine lv_aload_n hx hb dX8_still_0 rfl (lv_at hl 0 rfl) ?_
  refine va_get (D := D) (ci := 7) (v := .ref aH) (C := RX8) (T := TX8) (N := 9) hx hb ht0 niX8 hown hK hP 0 rfl rfl 5 (by decide) (ht0 _ wd522) (fun _ h9 => h9) rfl dX8_still_1 ?_
  obtain ⟨r4, hc4, hok⟩ := k_bind hok
  refine kCi (wc := (wX4_stands cy aH qH vH)) (wc2 := (wX4_stands cy aH qH vH)) (wr := [(aN, oX8 vN qN aH), (qN 2, oX6 vW qW aH0), (qN 1, oX1 vD qD), (qD 0, rI cy 9 vD_now), (qW 1, rI cy 36 vW_who), (qH 14, rI cy 7 vH_kinds), (qW 0, rI cy 7 vW_cells), (qH 8, rI cy 4 vH_sorts), (qH 10, rI cy 36 vH_next), (qW 2, rI cy 7 vW_inFront), (qH 15, rI cy 7 vH_sizes), (qH 11, rI cy 36 vH_width)]) (ws2 := (wX8_still cy aN qN aH qH qW aH0 qD aH aH0 vN vH vW vD vD_now vW_who vH_kinds vW_cells vH_sorts vH_next vW_inFront vH_sizes vH_width)) (kRunV (As := []) (rest := []) ⟨hx, hb, hml, hown, ht0⟩ (kX4_stands l D cy _ aH qH vH r4 hc4 _ rfl) (cwV 0 ht0 (gV wd577 wd462 wd463 wd9 wd464) rfl rfl rfl (by decide +kernel) ⟨Nat.le_of_ble_eq_true rfl, Nat.le_of_ble_eq_true rfl⟩) hK hN hP hD [1] rfl (by decide) 1 3 rfl rfl rfl hl.1 rfl (Nat.le_of_ble_eq_true rfl) dX8_still_4 ⟨Nat.zero_le _, Nat.zero_le _⟩) hP hD hS hA [1] [0, 2, 3, 4, 5, 6, 7, 8, 9, 10, 11, 12] rfl rfl (by decide) (by decide) [0, 12, 1, 2, 3, 4, 5, 6, 7, 8, 9, 10, 11] (by decide) rfl rfl (fun H locs hP hD hS => ?_)
  refine lv_if_ne (tgt := 16) hx hb dX8_still_7 (by decide) (fun c7 => ?_) (fun c7 => ?_)
  · have hok := k_neg c7 hok
    refine lv_aload_n hx hb dX8_still_16 rfl (lv_at hl 0 rfl) ?_
    refine va_get (D := D) (ci := 7) (v := .ref (qN 2)) (C := RX8) (T := TX8) (N := 9) hx hb ht0 niX8 hown hK hP 0 rfl rfl 2 (by decide) (ht0 _ wd578) (fun _ h9 => h9) rfl dX8_still_17 ?_
    refine lv_aload_n hx hb dX8_still_20 rfl (lv_at hl 0 rfl) ?_
    refine va_get (D := D) (ci := 7) (v := .ref aH) (C := RX8) (T := TX8) (N := 9) hx hb ht0 niX8 hown hK hP 0 rfl rfl 5 (by decide) (ht0 _ wd522) (fun _ h9 => h9) rfl dX8_still_21 ?_
    refine lv_aload_n hx hb dX8_still_24 rfl (lv_at hl 0 rfl) ?_
    refine va_get (D := D) (ci := 7) (v := .ref (qN 1)) (C := RX8) (T := TX8) (N := 9) hx hb ht0 niX8 hown hK hP 0 rfl rfl 1 (by decide) (ht0 _ wd527) (fun _ h9 => h9) rfl dX8_still_25 ?_
    refine lv_iconst (v := 0) hx hb dX8_still_28 (by decide) ?_
    obtain ⟨⟨vW_29, vW_who_29, vW_cells_29⟩, hc29, hok⟩ := k_bind hok
    try dsimp only at hok
    refine kCv (wc := (wX6_start cy (qN 2) aH (qN 1) qW aH0 qD qH aH0 vW vD vD_now vW_who vH vH_kinds vW_cells vH_sorts)) (wc2 := (wX6_start cy (qN 2) aH (qN 1) qW aH0 qD qH aH vW_29 vD vD_now vW_who_29 vH vH_kinds vW_cells_29 vH_sorts)) (wr := [(aN, oX8 vN qN aH), (qH 10, rI cy 36 vH_next), (qW 2, rI cy 7 vW_inFront), (qH 15, rI cy 7 vH_sizes), (qH 11, rI cy 36 vH_width)]) (ws2 := (wX8_still cy aN qN aH qH qW aH0 qD aH aH vN vH vW_29 vD vD_now vW_who_29 vH_kinds vW_cells_29 vH_sorts vH_next vW_inFront vH_sizes vH_width)) (kRunV (As := [.ref aH, .ref (qN 1), .int 0]) (rest := []) ⟨hx, hb, hml, hown, ht0⟩ (kX6_start l D cy _ (qN 2) aH (qN 1) qW aH0 qD qH vW vD vD_now vW_who vH vH_kinds vW_cells vH_sorts (0 : Int32) vW_29 vW_who_29 vW_cells_29 hc29 _ rfl) (cwV 3 ht0 (gV wd579 wd181 wd182 wd114 wd183) rfl rfl rfl (by decide +kernel) ⟨Nat.le_of_ble_eq_true rfl, Nat.le_of_ble_eq_true rfl⟩) hK hN hP hD [2, 3, 4, 5, 1, 6, 7, 8] rfl (by decide) 2 5 rfl rfl rfl hl.1 rfl (Nat.le_of_ble_eq_true rfl) dX8_still_29 ⟨Nat.zero_le _, Nat.zero_le _⟩) hP hD hS hA [2, 3, 4, 5, 1, 6, 7, 8] [0, 9, 10, 11, 12] rfl rfl (by decide) (by decide) [0, 9, 5, 6, 7, 8, 10, 11, 12, 1, 2, 3, 4] (by decide) rfl rfl (fun H locs hP hD hS => ?_)
    refine lv_iconst (v := 0) hx hb dX8_still_32 (by decide) ?_
    refine lv_istore_n (lv' := [(1, .int 0), (0, .ref aN)]) hx hb dX8_still_33 rfl hl (by decide) rfl (fun ls hl => ?_)
    exact L34 5000 (0 : Int32) vW_cells_29 vW_inFront vW_who_29 vW_29 H locs ls hP hD hS (lv_sub hl [1, 0] rfl) hok
  · have hok := k_pos c7 hok
    refine lv_aload_n hx hb dX8_still_10 rfl (lv_at hl 0 rfl) ?_
    refine lv_iconst (v := 1) hx hb dX8_still_11 (by decide) ?_
    obtain ⟨⟨r12, vN_12⟩, hc12, hok⟩ := k_bind hok
    try dsimp only at hok
    refine kCi (wc := (wX8_refuse cy aN qN aH aH vN)) (wc2 := (wX8_refuse cy aN qN aH aH vN_12)) (wr := [(aH, oX4 vH qH), (qN 2, oX6 vW qW aH0), (qN 1, oX1 vD qD), (qD 0, rI cy 9 vD_now), (qW 1, rI cy 36 vW_who), (qH 14, rI cy 7 vH_kinds), (qW 0, rI cy 7 vW_cells), (qH 8, rI cy 4 vH_sorts), (qH 10, rI cy 36 vH_next), (qW 2, rI cy 7 vW_inFront), (qH 15, rI cy 7 vH_sizes), (qH 11, rI cy 36 vH_width)]) (ws2 := (wX8_still cy aN qN aH qH qW aH0 qD aH aH0 vN_12 vH vW vD vD_now vW_who vH_kinds vW_cells vH_sorts vH_next vW_inFront vH_sizes vH_width)) (kRunV (As := [.int 1]) (rest := []) ⟨hx, hb, hml, hown, ht0⟩ (kX8_refuse l D cy _ aN qN aH vN (1 : Int32) r12 vN_12 hc12 _ rfl) (cwV 1 ht0 (gV wd504 wd505 wd506 wd57 wd507) rfl rfl rfl (by decide +kernel) ⟨Nat.le_of_ble_eq_true rfl, Nat.le_of_ble_eq_true rfl⟩) hK hN hP hD [0] rfl (by decide) 0 7 rfl rfl rfl hl.1 rfl (Nat.le_of_ble_eq_true rfl) dX8_still_12 ⟨Nat.zero_le _, Nat.zero_le _⟩) hP hD hS hA [0] [1, 2, 3, 4, 5, 6, 7, 8, 9, 10, 11, 12] rfl rfl (by decide) (by decide) [12, 0, 1, 2, 3, 4, 5, 6, 7, 8, 9, 10, 11] (by decide) rfl rfl (fun H locs hP hD hS => ?_)
    cases hok
    subst hQe; exact W.iret hx hb hr (fun t ht hW => ⟨⟨_, (), rfl, rfl, by rw [ht]; exact hP, va_K.moved hW.alike hK, hD⟩, hS.F ht⟩) hS.2.2 dX8_still_15
def wsX8_period : List Cond := .code yX8_period cX8_period 2 (some .int) :: W0
abbrev wX8_period (cy : Nat → ClassId) (aN : Nat) (qN : Nat → Nat) (aH : Nat) (qH : Nat → Nat) (qW : Nat → Nat) (aH0 : Nat) (qD : Nat → Nat) (fvN_5 : Nat) (fvW_4 : Nat) (vN : Nat → Int32) (vH : Nat → Int32) (vW : Nat → Int32) (vD : Nat → Int32) (vD_now : Nat → Int32) (vW_who : Nat → Int32) (vH_kinds : Nat → Int32) (vW_cells : Nat → Int32) (vH_sorts : Nat → Int32) (vH_next : Nat → Int32) (vW_inFront : Nat → Int32) (vH_sizes : Nat → Int32) (vH_width : Nat → Int32) : va_W := [(aN, oX8 vN qN fvN_5), (aH, oX4 vH qH), (qN 2, oX6 vW qW fvW_4), (qN 1, oX1 vD qD), (qD 0, rI cy 9 vD_now), (qW 1, rI cy 36 vW_who), (qH 14, rI cy 7 vH_kinds), (qW 0, rI cy 7 vW_cells), (qH 8, rI cy 4 vH_sorts), (qH 10, rI cy 36 vH_next), (qW 2, rI cy 7 vW_inFront), (qH 15, rI cy 7 vH_sizes), (qH 11, rI cy 36 vH_width)]
set_option maxHeartbeats 4000000 in
set_option maxRecDepth 100000 in
theorem kX8_period (l : Launch) (D : va_G) (cy : Nat → ClassId) (sz : Nat) (aN : Nat) (qN : Nat → Nat) (aH : Nat) (qH : Nat → Nat) (qW : Nat → Nat) (aH0 : Nat) (qD : Nat → Nat) (vN : Nat → Int32) (vH : Nat → Int32) (vW : Nat → Int32) (vD : Nat → Int32) (vD_now : Nat → Int32) (vW_who : Nat → Int32) (vH_kinds : Nat → Int32) (vW_cells : Nat → Int32) (vH_sorts : Nat → Int32) (vH_next : Nat → Int32) (vW_inFront : Nat → Int32) (vH_sizes : Nat → Int32) (vH_width : Nat → Int32) (zr : Int32) (z_vN : Nat → Int32) (z_vW : Nat → Int32) (z_vW_who : Nat → Int32) (z_vW_cells : Nat → Int32) (z_vW_inFront : Nat → Int32) (z_aH0 : Nat) (hok : fX8_period aH aH0 vN vH vW vD vD_now vW_who vH_kinds vW_cells vH_sorts vH_next vW_inFront vH_sizes vH_width = some (zr, z_vN, z_vW, z_vW_who, z_vW_cells, z_vW_inFront, z_aH0)) (A : Nat → Prop) (hAe : va_A (wX8_period cy aN qN aH qH qW aH0 qD aH aH0 vN vH vW vD vD_now vW_who vH_kinds vW_cells vH_sorts vH_next vW_inFront vH_sizes vH_width) sz = A) : Met l yX8_period wsX8_period ({ frames := 3, cells := 0, slots := 0, locals := 73 } : Room) (kPre D cy [.ref aN] (wX8_period cy aN qN aH qH qW aH0 qD aH aH0 vN vH vW vD vD_now vW_who vH_kinds vW_cells vH_sorts vH_next vW_inFront vH_sizes vH_width) sz) (kQi D cy zr A (wX8_period cy aN qN aH qH qW aH0 qD aH z_aH0 z_vN vH z_vW vD vD_now z_vW_who vH_kinds z_vW_cells vH_sorts vH_next z_vW_inFront vH_sizes vH_width)) 0 0 A := by
  refine Met.ofW (cc := cX8_period) (maxL := 2) (ret := (some .int)) (by decide) rfl ?_
  intro p e s m args below meth c s₁ B hml hv
  obtain ⟨rfl, hsz, hP, hK, hD0, hN⟩ := hv
  have hx := B.exec
  have hb := B.bytes
  have hr := B.returns
  have ht0 : ∀ w ∈ W0, w.before _ s = true := fun w h => atoms_spec (ws := wsX8_period) B.pre w (List.mem_cons_of_mem _ h)
  have hown : s.vm.findClass RX8 = some m.cls := findClass_of_methodNamed B.named
  have hlocks := B.notSynchronized
  subst hsz
  have hD : va_D A (wX8_period cy aN qN aH qH qW aH0 qD aH aH0 vN vH vW vD vD_now vW_who vH_kinds vW_cells vH_sorts vH_next vW_inFront vH_sizes vH_width) := by rw [← hAe]; exact hD0.self
  have hA : ∀ q : Nat, s.heap.size ≤ q → A q := fun q h => by rw [← hAe]; exact Or.inr h
  have hS : va_S A s.heap s.heap [] := va_S.rf
  have hl := lv_entry ([.ref aN]) (n := 2) (Nat.le_of_ble_eq_true rfl)
  rw [lg_entry_eq]
  generalize (lg_sl ([.ref aN]) ++ List.replicate (2 - (lg_sl ([.ref aN])).length) Slot.unset).toArray = ls at hl ⊢
  have hl : lv_has ls 2 [(0, .ref aN)] := hl
  generalize hQe : MQ below (kQi D cy zr A (wX8_period cy aN qN aH qH qW aH0 qD aH z_aH0 z_vN vH z_vW vD vD_now z_vW_who vH_kinds z_vW_cells vH_sorts vH_next z_vW_inFront vH_sizes vH_width)) ([.ref aN] : List Value).toArray s 0 0 A = Q
  have L34 : ∀ (fuel : Nat) (y1_34 : Int32) (vW_cells_34 : Nat → Int32) (vW_inFront_34 : Nat → Int32) (vW_who_34 : Nat → Int32) (vW_34 : Nat → Int32), ∀ (H : Heap) (locs : List Loc) (ls : Array Slot), va_P D vwCl (wX8_period cy aN qN aH qH qW aH0 qD aH aH vN vH vW_34 vD vD_now vW_who_34 vH_kinds vW_cells_34 vH_sorts vH_next vW_inFront_34 vH_sizes vH_width) H → va_D A (wX8_period cy aN qN aH qH qW aH0 qD aH aH vN vH vW_34 vD vD_now vW_who_34 vH_kinds vW_cells_34 vH_sorts vH_next vW_inFront_34 vH_sizes vH_width) → va_S A s.heap H locs → lv_has ls 2 [(0, .ref aN), (1, .int y1_34)] → lp (fX8_period_B34 aH vN vH vD vD_now vH_kinds vH_next vH_sizes vH_width) fuel (y1_34, vW_cells_34, vW_inFront_34, vW_who_34, vW_34) = some (zr, z_vN, z_vW, z_vW_who, z_vW_cells, z_vW_inFront, z_aH0) → W p l e ({ frames := 3, cells := 0, slots := 0, locals := 73 } : Room) s m ([.ref aN] : List Value).toArray below meth c H locs 0 0 Q (F0 m 34 ls []) := by
    intro fuel
    induction fuel with
    | zero => intro y1_34 vW_cells_34 vW_inFront_34 vW_who_34 vW_34 H locs ls hP hD hS hl hok; exact (lp_0 hok).elim
    | succ fuel ih34 =>
      intro y1_34 vW_cells_34 vW_inFront_34 vW_who_34 vW_34 H locs ls hP hD hS hl hok
      obtain ⟨y34, hok, hL34, hR34⟩ := lp_step hok
      unfold fX8_period_B34 at hok
      try dsimp only at hok
      refine lv_iload_n hx hb dX8_period_34 rfl (lv_at hl 1 rfl) ?_
      refine lv_sipush (v := 200) hx hb dX8_period_35 (by decide) ?_
      refine lv_icmp_gt (tgt := 75) hx hb dX8_period_38 (by decide) (fun c38 => ?_) (fun c38 => ?_)
      · have hok := k_pos c38 hok
        obtain ⟨e34, hok, he34⟩ := ex_some hok
        have hok := hok.trans (congrArg some (hL34 _ he34))
        refine lv_aload_n hx hb dX8_period_75 rfl (lv_at hl 0 rfl) ?_
        refine lv_bipush (v := -2) hx hb dX8_period_76 (by decide) ?_
        obtain ⟨⟨r78, vN_78⟩, hc78, hok⟩ := k_bind hok
        try dsimp only at hok
        refine kCi (wc := (wX8_answer cy aN qN aH aH vN)) (wc2 := (wX8_answer cy aN qN aH aH vN_78)) (wr := [(aH, oX4 vH qH), (qN 2, oX6 vW_34 qW aH), (qN 1, oX1 vD qD), (qD 0, rI cy 9 vD_now), (qW 1, rI cy 36 vW_who_34), (qH 14, rI cy 7 vH_kinds), (qW 0, rI cy 7 vW_cells_34), (qH 8, rI cy 4 vH_sorts), (qH 10, rI cy 36 vH_next), (qW 2, rI cy 7 vW_inFront_34), (qH 15, rI cy 7 vH_sizes), (qH 11, rI cy 36 vH_width)]) (ws2 := (wX8_period cy aN qN aH qH qW aH0 qD aH aH vN_78 vH vW_34 vD vD_now vW_who_34 vH_kinds vW_cells_34 vH_sorts vH_next vW_inFront_34 vH_sizes vH_width)) (kRunV (As := [.int (-2)]) (rest := []) ⟨hx, hb, hml, hown, ht0⟩ (kX8_answer l D cy _ aN qN aH vN (-2 : Int32) r78 vN_78 hc78 _ rfl) (cwV 1 ht0 (gV wd538 wd539 wd540 wd57 wd541) rfl rfl rfl (by decide +kernel) ⟨Nat.le_of_ble_eq_true rfl, Nat.le_of_ble_eq_true rfl⟩) hK hN hP hD [0] rfl (by decide) 0 7 rfl rfl rfl hl.1 rfl (Nat.le_of_ble_eq_true rfl) dX8_period_78 ⟨Nat.zero_le _, Nat.zero_le _⟩) hP hD hS hA [0] [1, 2, 3, 4, 5, 6, 7, 8, 9, 10, 11, 12] rfl rfl (by decide) (by decide) [12, 0, 1, 2, 3, 4, 5, 6, 7, 8, 9, 10, 11] (by decide) rfl rfl (fun H locs hP hD hS => ?_)
        cases hok
        subst hQe; exact W.iret hx hb hr (fun t ht hW => ⟨⟨_, (), rfl, rfl, by rw [ht]; exact hP, va_K.moved hW.alike hK, hD⟩, hS.F ht⟩) hS.2.2 dX8_period_81
      · have hok := k_neg c38 hok
        refine lv_aload_n hx hb dX8_period_41 rfl (lv_at hl 0 rfl) ?_
        refine va_get (D := D) (ci := 7) (v := .ref (qN 2)) (C := RX8) (T := TX8) (N := 9) hx hb ht0 niX8 hown hK hP 0 rfl rfl 2 (by decide) (ht0 _ wd578) (fun _ h9 => h9) rfl dX8_period_42 ?_
        refine lv_iconst (v := 0) hx hb dX8_period_45 (by decide) ?_
        obtain ⟨⟨vW_46, vW_cells_46, vW_who_46, vW_inFront_46⟩, hc46, hok⟩ := k_bind hok
        try dsimp only at hok
        refine kCv (wc := (wX6_pass cy (qN 2) qW aH qH aH vW_34 vH vW_cells_34 vH_next vW_who_34 vW_inFront_34 vH_sizes vH_width vH_kinds)) (wc2 := (wX6_pass cy (qN 2) qW aH qH aH vW_46 vH vW_cells_46 vH_next vW_who_46 vW_inFront_46 vH_sizes vH_width vH_kinds)) (wr := [(aN, oX8 vN qN aH), (qN 1, oX1 vD qD), (qD 0, rI cy 9 vD_now), (qH 8, rI cy 4 vH_sorts)]) (ws2 := (wX8_period cy aN qN aH qH qW aH0 qD aH aH vN vH vW_46 vD vD_now vW_who_46 vH_kinds vW_cells_46 vH_sorts vH_next vW_inFront_46 vH_sizes vH_width)) (kRunV (As := [.int 0]) (rest := []) ⟨hx, hb, hml, hown, ht0⟩ (kX6_pass l D cy _ (qN 2) qW aH qH vW_34 vH vW_cells_34 vH_next vW_who_34 vW_inFront_34 vH_sizes vH_width vH_kinds (0 : Int32) vW_46 vW_cells_46 vW_who_46 vW_inFront_46 hc46 _ rfl) (cwV 1 ht0 (gV wd598 wd155 wd156 wd114 wd157) rfl rfl rfl (by decide +kernel) ⟨Nat.le_of_ble_eq_true rfl, Nat.le_of_ble_eq_true rfl⟩) hK hN hP hD [2, 1, 7, 9, 5, 10, 11, 12, 6] rfl (by decide) 2 5 rfl rfl rfl hl.1 rfl (Nat.le_of_ble_eq_true rfl) dX8_period_46 ⟨Nat.zero_le _, Nat.zero_le _⟩) hP hD hS hA [2, 1, 7, 9, 5, 10, 11, 12, 6] [0, 3, 4, 8] rfl rfl (by decide) (by decide) [0, 5, 4, 1, 2, 8, 12, 6, 3, 7, 9, 10, 11] (by decide) rfl rfl (fun H locs hP hD hS => ?_)
        refine lv_aload_n hx hb dX8_period_49 rfl (lv_at hl 0 rfl) ?_
        refine va_get (D := D) (ci := 7) (v := .ref (qN 2)) (C := RX8) (T := TX8) (N := 9) hx hb ht0 niX8 hown hK hP 0 rfl rfl 2 (by decide) (ht0 _ wd578) (fun _ h9 => h9) rfl dX8_period_50 ?_
        refine lv_aload_n hx hb dX8_period_53 rfl (lv_at hl 0 rfl) ?_
        refine va_get (D := D) (ci := 7) (v := .ref (qN 1)) (C := RX8) (T := TX8) (N := 9) hx hb ht0 niX8 hown hK hP 0 rfl rfl 1 (by decide) (ht0 _ wd527) (fun _ h9 => h9) rfl dX8_period_54 ?_
        obtain ⟨r57, hc57, hok⟩ := k_bind hok
        refine kCi (wc := (wX6_isAsIn cy (qN 2) (qN 1) qW aH qH qD aH vW_46 vH vW_cells_46 vD vD_now)) (wc2 := (wX6_isAsIn cy (qN 2) (qN 1) qW aH qH qD aH vW_46 vH vW_cells_46 vD vD_now)) (wr := [(aN, oX8 vN qN aH), (qW 1, rI cy 36 vW_who_46), (qH 14, rI cy 7 vH_kinds), (qH 8, rI cy 4 vH_sorts), (qH 10, rI cy 36 vH_next), (qW 2, rI cy 7 vW_inFront_46), (qH 15, rI cy 7 vH_sizes), (qH 11, rI cy 36 vH_width)]) (ws2 := (wX8_period cy aN qN aH qH qW aH0 qD aH aH vN vH vW_46 vD vD_now vW_who_46 vH_kinds vW_cells_46 vH_sorts vH_next vW_inFront_46 vH_sizes vH_width)) (kRunV (As := [.ref (qN 1)]) (rest := []) ⟨hx, hb, hml, hown, ht0⟩ (kX6_isAsIn l D cy _ (qN 2) (qN 1) qW aH qH qD vW_46 vH vW_cells_46 vD vD_now r57 hc57 _ rfl) (cwV 1 ht0 (gV wd604 wd605 wd606 wd114 wd607) rfl rfl rfl (by decide +kernel) ⟨Nat.le_of_ble_eq_true rfl, Nat.le_of_ble_eq_true rfl⟩) hK hN hP hD [2, 1, 7, 3, 4] rfl (by decide) 2 5 rfl rfl rfl hl.1 rfl (Nat.le_of_ble_eq_true rfl) dX8_period_57 ⟨Nat.zero_le _, Nat.zero_le _⟩) hP hD hS hA [2, 1, 7, 3, 4] [0, 5, 6, 8, 9, 10, 11, 12] rfl rfl (by decide) (by decide) [0, 9, 8, 11, 12, 1, 2, 10, 3, 4, 5, 6, 7] (by decide) rfl rfl (fun H locs hP hD hS => ?_)
        refine lv_if_eq (tgt := 69) hx hb dX8_period_60 (by decide) (fun c60 => ?_) (fun c60 => ?_)
        · have hok := k_pos c60 hok
          refine lv_iinc (v := (y1_34 + 1)) (lv' := [(1, .int (y1_34 + 1)), (0, .ref aN)]) hx hb dX8_period_69 hl (k := 1) rfl (by first | rfl | decide) (by decide) rfl (fun ls hl => ?_)
          refine lv_goto (tgt := 34) hx hb dX8_period_72 (by decide) ?_
          exact ih34 (y1_34 + 1) vW_cells_46 vW_inFront_46 vW_who_46 vW_46 H locs ls hP hD hS (lv_sub hl [1, 0] rfl) (hR34 _ (Option.some.inj hok).symm)
        · have hok := k_neg c60 hok
          obtain ⟨e34, hok, he34⟩ := ex_some hok
          have hok := hok.trans (congrArg some (hL34 _ he34))
          refine lv_aload_n hx hb dX8_period_63 rfl (lv_at hl 0 rfl) ?_
          refine lv_iload_n hx hb dX8_period_64 rfl (lv_at hl 1 rfl) ?_
          obtain ⟨⟨r65, vN_65⟩, hc65, hok⟩ := k_bind hok
          try dsimp only at hok
          refine kCi (wc := (wX8_answer cy aN qN aH aH vN)) (wc2 := (wX8_answer cy aN qN aH aH vN_65)) (wr := [(aH, oX4 vH qH), (qN 2, oX6 vW_46 qW aH), (qN 1, oX1 vD qD), (qD 0, rI cy 9 vD_now), (qW 1, rI cy 36 vW_who_46), (qH 14, rI cy 7 vH_kinds), (qW 0, rI cy 7 vW_cells_46), (qH 8, rI cy 4 vH_sorts), (qH 10, rI cy 36 vH_next), (qW 2, rI cy 7 vW_inFront_46), (qH 15, rI cy 7 vH_sizes), (qH 11, rI cy 36 vH_width)]) (ws2 := (wX8_period cy aN qN aH qH qW aH0 qD aH aH vN_65 vH vW_46 vD vD_now vW_who_46 vH_kinds vW_cells_46 vH_sorts vH_next vW_inFront_46 vH_sizes vH_width)) (kRunV (As := [.int y1_34]) (rest := []) ⟨hx, hb, hml, hown, ht0⟩ (kX8_answer l D cy _ aN qN aH vN y1_34 r65 vN_65 hc65 _ rfl) (cwV 1 ht0 (gV wd538 wd539 wd540 wd57 wd541) rfl rfl rfl (by decide +kernel) ⟨Nat.le_of_ble_eq_true rfl, Nat.le_of_ble_eq_true rfl⟩) hK hN hP hD [0] rfl (by decide) 0 7 rfl rfl rfl hl.1 rfl (Nat.le_of_ble_eq_true rfl) dX8_period_65 ⟨Nat.zero_le _, Nat.zero_le _⟩) hP hD hS hA [0] [1, 2, 3, 4, 5, 6, 7, 8, 9, 10, 11, 12] rfl rfl (by decide) (by decide) [12, 0, 1, 2, 3, 4, 5, 6, 7, 8, 9, 10, 11] (by decide) rfl rfl (fun H locs hP hD hS => ?_)
          cases hok
          subst hQe; exact W.iret hx hb hr (fun t ht hW => ⟨⟨_, (), rfl, rfl, by rw [ht]; exact hP, va_K.moved hW.alike hK, hD⟩, hS.F ht⟩) hS.2.2 dX8_period_68
  unfold fX8_period at hok
  obtain ⟨H, hH⟩ : ∃ H, H = s.heap := ⟨_, rfl⟩
  obtain ⟨locs, hlc⟩ : ∃ x : List Loc, x = [] := ⟨_, rfl⟩
  have hP : va_P D vwCl (wX8_period cy aN qN aH qH qW aH0 qD aH aH0 vN vH vW vD vD_now vW_who vH_kinds vW_cells vH_sorts vH_next vW_inFront vH_sizes vH_width) H := by rw [hH]; exact hP
  have hS : va_S A s.heap H locs := by rw [hH, hlc]; exact hS
  rw [show W p l e _ s m _ below meth c s.heap [] = W p l e _ s m _ below meth c H locs from by rw [hH, hlc]]
  refine lv_aload_n hx hb dX8_period_0 rfl (lv_at hl 0 rfl) ?_
  refine va_get (D := D) (ci := 7) (v := .ref aH) (C := RX8) (T := TX8) (N := 9) hx hb ht0 niX8 hown hK hP 0 rfl rfl 5 (by decide) (ht0 _ wd522) (fun _ h9 => h9) rfl dX8_period_1 ?_
  obtain ⟨r4, hc4, hok⟩ := k_bind hok
  refine kCi (wc := (wX4_stands cy aH qH vH)) (wc2 := (wX4_stands cy aH qH vH)) (wr := [(aN, oX8 vN qN aH), (qN 2, oX6 vW qW aH0), (qN 1, oX1 vD qD), (qD 0, rI cy 9 vD_now), (qW 1, rI cy 36 vW_who), (qH 14, rI cy 7 vH_kinds), (qW 0, rI cy 7 vW_cells), (qH 8, rI cy 4 vH_sorts), (qH 10, rI cy 36 vH_next), (qW 2, rI cy 7 vW_inFront), (qH 15, rI cy 7 vH_sizes), (qH 11, rI cy 36 vH_width)]) (ws2 := (wX8_period cy aN qN aH qH qW aH0 qD aH aH0 vN vH vW vD vD_now vW_who vH_kinds vW_cells vH_sorts vH_next vW_inFront vH_sizes vH_width)) (kRunV (As := []) (rest := []) ⟨hx, hb, hml, hown, ht0⟩ (kX4_stands l D cy _ aH qH vH r4 hc4 _ rfl) (cwV 0 ht0 (gV wd577 wd462 wd463 wd9 wd464) rfl rfl rfl (by decide +kernel) ⟨Nat.le_of_ble_eq_true rfl, Nat.le_of_ble_eq_true rfl⟩) hK hN hP hD [1] rfl (by decide) 1 3 rfl rfl rfl hl.1 rfl (Nat.le_of_ble_eq_true rfl) dX8_period_4 ⟨Nat.zero_le _, Nat.zero_le _⟩) hP hD hS hA [1] [0, 2, 3, 4, 5, 6, 7, 8, 9, 10, 11, 12] rfl rfl (by decide) (by decide) [0, 12, 1, 2, 3, 4, 5, 6, 7, 8, 9, 10, 11] (by decide) rfl rfl (fun H locs hP hD hS => ?_)
  refine lv_if_ne (tgt := 16) hx hb dX8_period_7 (by decide) (fun c7 => ?_) (fun c7 => ?_)
  · have hok := k_neg c7 hok
    refine lv_aload_n hx hb dX8_period_16 rfl (lv_at hl 0 rfl) ?_
    refine va_get (D := D) (ci := 7) (v := .ref (qN 2)) (C := RX8) (T := TX8) (N := 9) hx hb ht0 niX8 hown hK hP 0 rfl rfl 2 (by decide) (ht0 _ wd578) (fun _ h9 => h9) rfl dX8_period_17 ?_
    refine lv_aload_n hx hb dX8_period_20 rfl (lv_at hl 0 rfl) ?_
    refine va_get (D := D) (ci := 7) (v := .ref aH) (C := RX8) (T := TX8) (N := 9) hx hb ht0 niX8 hown hK hP 0 rfl rfl 5 (by decide) (ht0 _ wd522) (fun _ h9 => h9) rfl dX8_period_21 ?_
    refine lv_aload_n hx hb dX8_period_24 rfl (lv_at hl 0 rfl) ?_
    refine va_get (D := D) (ci := 7) (v := .ref (qN 1)) (C := RX8) (T := TX8) (N := 9) hx hb ht0 niX8 hown hK hP 0 rfl rfl 1 (by decide) (ht0 _ wd527) (fun _ h9 => h9) rfl dX8_period_25 ?_
    refine lv_iconst (v := 0) hx hb dX8_period_28 (by decide) ?_
    obtain ⟨⟨vW_29, vW_who_29, vW_cells_29⟩, hc29, hok⟩ := k_bind hok
    try dsimp only at hok
    refine kCv (wc := (wX6_start cy (qN 2) aH (qN 1) qW aH0 qD qH aH0 vW vD vD_now vW_who vH vH_kinds vW_cells vH_sorts)) (wc2 := (wX6_start cy (qN 2) aH (qN 1) qW aH0 qD qH aH vW_29 vD vD_now vW_who_29 vH vH_kinds vW_cells_29 vH_sorts)) (wr := [(aN, oX8 vN qN aH), (qH 10, rI cy 36 vH_next), (qW 2, rI cy 7 vW_inFront), (qH 15, rI cy 7 vH_sizes), (qH 11, rI cy 36 vH_width)]) (ws2 := (wX8_period cy aN qN aH qH qW aH0 qD aH aH vN vH vW_29 vD vD_now vW_who_29 vH_kinds vW_cells_29 vH_sorts vH_next vW_inFront vH_sizes vH_width)) (kRunV (As := [.ref aH, .ref (qN 1), .int 0]) (rest := []) ⟨hx, hb, hml, hown, ht0⟩ (kX6_start l D cy _ (qN 2) aH (qN 1) qW aH0 qD qH vW vD vD_now vW_who vH vH_kinds vW_cells vH_sorts (0 : Int32) vW_29 vW_who_29 vW_cells_29 hc29 _ rfl) (cwV 3 ht0 (gV wd579 wd181 wd182 wd114 wd183) rfl rfl rfl (by decide +kernel) ⟨Nat.le_of_ble_eq_true rfl, Nat.le_of_ble_eq_true rfl⟩) hK hN hP hD [2, 3, 4, 5, 1, 6, 7, 8] rfl (by decide) 2 5 rfl rfl rfl hl.1 rfl (Nat.le_of_ble_eq_true rfl) dX8_period_29 ⟨Nat.zero_le _, Nat.zero_le _⟩) hP hD hS hA [2, 3, 4, 5, 1, 6, 7, 8] [0, 9, 10, 11, 12] rfl rfl (by decide) (by decide) [0, 9, 5, 6, 7, 8, 10, 11, 12, 1, 2, 3, 4] (by decide) rfl rfl (fun H locs hP hD hS => ?_)
    refine lv_iconst (v := 1) hx hb dX8_period_32 (by decide) ?_
    refine lv_istore_n (lv' := [(1, .int 1), (0, .ref aN)]) hx hb dX8_period_33 rfl hl (by decide) rfl (fun ls hl => ?_)
    exact L34 5000 (1 : Int32) vW_cells_29 vW_inFront vW_who_29 vW_29 H locs ls hP hD hS (lv_sub hl [1, 0] rfl) hok
  · have hok := k_pos c7 hok
    refine lv_aload_n hx hb dX8_period_10 rfl (lv_at hl 0 rfl) ?_
    refine lv_iconst (v := 1) hx hb dX8_period_11 (by decide) ?_
    obtain ⟨⟨r12, vN_12⟩, hc12, hok⟩ := k_bind hok
    try dsimp only at hok
    refine kCi (wc := (wX8_refuse cy aN qN aH aH vN)) (wc2 := (wX8_refuse cy aN qN aH aH vN_12)) (wr := [(aH, oX4 vH qH), (qN 2, oX6 vW qW aH0), (qN 1, oX1 vD qD), (qD 0, rI cy 9 vD_now), (qW 1, rI cy 36 vW_who), (qH 14, rI cy 7 vH_kinds), (qW 0, rI cy 7 vW_cells), (qH 8, rI cy 4 vH_sorts), (qH 10, rI cy 36 vH_next), (qW 2, rI cy 7 vW_inFront), (qH 15, rI cy 7 vH_sizes), (qH 11, rI cy 36 vH_width)]) (ws2 := (wX8_period cy aN qN aH qH qW aH0 qD aH aH0 vN_12 vH vW vD vD_now vW_who vH_kinds vW_cells vH_sorts vH_next vW_inFront vH_sizes vH_width)) (kRunV (As := [.int 1]) (rest := []) ⟨hx, hb, hml, hown, ht0⟩ (kX8_refuse l D cy _ aN qN aH vN (1 : Int32) r12 vN_12 hc12 _ rfl) (cwV 1 ht0 (gV wd504 wd505 wd506 wd57 wd507) rfl rfl rfl (by decide +kernel) ⟨Nat.le_of_ble_eq_true rfl, Nat.le_of_ble_eq_true rfl⟩) hK hN hP hD [0] rfl (by decide) 0 7 rfl rfl rfl hl.1 rfl (Nat.le_of_ble_eq_true rfl) dX8_period_12 ⟨Nat.zero_le _, Nat.zero_le _⟩) hP hD hS hA [0] [1, 2, 3, 4, 5, 6, 7, 8, 9, 10, 11, 12] rfl rfl (by decide) (by decide) [12, 0, 1, 2, 3, 4, 5, 6, 7, 8, 9, 10, 11] (by decide) rfl rfl (fun H locs hP hD hS => ?_)
    cases hok
    subst hQe; exact W.iret hx hb hr (fun t ht hW => ⟨⟨_, (), rfl, rfl, by rw [ht]; exact hP, va_K.moved hW.alike hK, hD⟩, hS.F ht⟩) hS.2.2 dX8_period_15
def wsX8_steps : List Cond := .code yX8_steps cX8_steps 5 (some .int) :: W0
abbrev wX8_steps (cy : Nat → ClassId) (aN : Nat) (qN : Nat → Nat) (aH : Nat) (qH : Nat → Nat) (qW : Nat → Nat) (aH0 : Nat) (qD : Nat → Nat) (fvN_5 : Nat) (fvW_4 : Nat) (vN : Nat → Int32) (vH : Nat → Int32) (vW : Nat → Int32) (vD : Nat → Int32) (vD_now : Nat → Int32) (vW_who : Nat → Int32) (vH_kinds : Nat → Int32) (vW_cells : Nat → Int32) (vH_sorts : Nat → Int32) (vH_next : Nat → Int32) (vW_inFront : Nat → Int32) (vH_sizes : Nat → Int32) (vH_width : Nat → Int32) : va_W := [(aN, oX8 vN qN fvN_5), (aH, oX4 vH qH), (qN 2, oX6 vW qW fvW_4), (qN 1, oX1 vD qD), (qD 0, rI cy 9 vD_now), (qW 1, rI cy 36 vW_who), (qH 14, rI cy 7 vH_kinds), (qW 0, rI cy 7 vW_cells), (qH 8, rI cy 4 vH_sorts), (qH 10, rI cy 36 vH_next), (qW 2, rI cy 7 vW_inFront), (qH 15, rI cy 7 vH_sizes), (qH 11, rI cy 36 vH_width)]
set_option maxHeartbeats 4000000 in
set_option maxRecDepth 100000 in
theorem kX8_steps (l : Launch) (D : va_G) (cy : Nat → ClassId) (sz : Nat) (aN : Nat) (qN : Nat → Nat) (aH : Nat) (qH : Nat → Nat) (qW : Nat → Nat) (aH0 : Nat) (qD : Nat → Nat) (vN : Nat → Int32) (vH : Nat → Int32) (vW : Nat → Int32) (vD : Nat → Int32) (vD_now : Nat → Int32) (vW_who : Nat → Int32) (vH_kinds : Nat → Int32) (vW_cells : Nat → Int32) (vH_sorts : Nat → Int32) (vH_next : Nat → Int32) (vW_inFront : Nat → Int32) (vH_sizes : Nat → Int32) (vH_width : Nat → Int32) (x1 : Int32) (x2 : Int32) (zr : Int32) (z_vN : Nat → Int32) (z_vW : Nat → Int32) (z_vW_who : Nat → Int32) (z_vW_cells : Nat → Int32) (z_vW_inFront : Nat → Int32) (z_aH0 : Nat) (hok : fX8_steps aH aH0 vN vH vW vD vD_now vW_who vH_kinds vW_cells vH_sorts vH_next vW_inFront vH_sizes vH_width x1 x2 = some (zr, z_vN, z_vW, z_vW_who, z_vW_cells, z_vW_inFront, z_aH0)) (A : Nat → Prop) (hAe : va_A (wX8_steps cy aN qN aH qH qW aH0 qD aH aH0 vN vH vW vD vD_now vW_who vH_kinds vW_cells vH_sorts vH_next vW_inFront vH_sizes vH_width) sz = A) : Met l yX8_steps wsX8_steps ({ frames := 3, cells := 0, slots := 0, locals := 73 } : Room) (kPre D cy [.ref aN, .int x1, .int x2] (wX8_steps cy aN qN aH qH qW aH0 qD aH aH0 vN vH vW vD vD_now vW_who vH_kinds vW_cells vH_sorts vH_next vW_inFront vH_sizes vH_width) sz) (kQi D cy zr A (wX8_steps cy aN qN aH qH qW aH0 qD aH z_aH0 z_vN vH z_vW vD vD_now z_vW_who vH_kinds z_vW_cells vH_sorts vH_next z_vW_inFront vH_sizes vH_width)) 0 0 A := by
  refine Met.ofW (cc := cX8_steps) (maxL := 5) (ret := (some .int)) (by decide) rfl ?_
  intro p e s m args below meth c s₁ B hml hv
  obtain ⟨rfl, hsz, hP, hK, hD0, hN⟩ := hv
  have hx := B.exec
  have hb := B.bytes
  have hr := B.returns
  have ht0 : ∀ w ∈ W0, w.before _ s = true := fun w h => atoms_spec (ws := wsX8_steps) B.pre w (List.mem_cons_of_mem _ h)
  have hown : s.vm.findClass RX8 = some m.cls := findClass_of_methodNamed B.named
  have hlocks := B.notSynchronized
  subst hsz
  have hD : va_D A (wX8_steps cy aN qN aH qH qW aH0 qD aH aH0 vN vH vW vD vD_now vW_who vH_kinds vW_cells vH_sorts vH_next vW_inFront vH_sizes vH_width) := by rw [← hAe]; exact hD0.self
  have hA : ∀ q : Nat, s.heap.size ≤ q → A q := fun q h => by rw [← hAe]; exact Or.inr h
  have hS : va_S A s.heap s.heap [] := va_S.rf
  have hl := lv_entry ([.ref aN, .int x1, .int x2]) (n := 5) (Nat.le_of_ble_eq_true rfl)
  rw [lg_entry_eq]
  generalize (lg_sl ([.ref aN, .int x1, .int x2]) ++ List.replicate (5 - (lg_sl ([.ref aN, .int x1, .int x2])).length) Slot.unset).toArray = ls at hl ⊢
  have hl : lv_has ls 5 [(0, .ref aN), (1, .int x1), (2, .int x2)] := hl
  generalize hQe : MQ below (kQi D cy zr A (wX8_steps cy aN qN aH qH qW aH0 qD aH z_aH0 z_vN vH z_vW vD vD_now z_vW_who vH_kinds z_vW_cells vH_sorts vH_next z_vW_inFront vH_sizes vH_width)) ([.ref aN, .int x1, .int x2] : List Value).toArray s 0 0 A = Q
  have L55 : ∀ (fuel : Nat) (y3_55 : Int32) (y4_55 : Int32) (vW_cells_55 : Nat → Int32) (vW_inFront_55 : Nat → Int32) (vW_who_55 : Nat → Int32) (vW_55 : Nat → Int32), ∀ (H : Heap) (locs : List Loc) (ls : Array Slot), va_P D vwCl (wX8_steps cy aN qN aH qH qW aH0 qD aH aH vN vH vW_55 vD vD_now vW_who_55 vH_kinds vW_cells_55 vH_sorts vH_next vW_inFront_55 vH_sizes vH_width) H → va_D A (wX8_steps cy aN qN aH qH qW aH0 qD aH aH vN vH vW_55 vD vD_now vW_who_55 vH_kinds vW_cells_55 vH_sorts vH_next vW_inFront_55 vH_sizes vH_width) → va_S A s.heap H locs → lv_has ls 5 [(0, .ref aN), (1, .int x1), (2, .int x2), (3, .int y3_55), (4, .int y4_55)] → lp (fX8_steps_B55 aH vN vH vH_kinds vH_next vH_sizes vH_width x1 x2) fuel (y3_55, y4_55, vW_cells_55, vW_inFront_55, vW_who_55, vW_55) = some (zr, z_vN, z_vW, z_vW_who, z_vW_cells, z_vW_inFront, z_aH0) → W p l e ({ frames := 3, cells := 0, slots := 0, locals := 73 } : Room) s m ([.ref aN, .int x1, .int x2] : List Value).toArray below meth c H locs 0 0 Q (F0 m 55 ls []) := by
    intro fuel
    induction fuel with
    | zero => intro y3_55 y4_55 vW_cells_55 vW_inFront_55 vW_who_55 vW_55 H locs ls hP hD hS hl hok; exact (lp_0 hok).elim
    | succ fuel ih55 =>
      intro y3_55 y4_55 vW_cells_55 vW_inFront_55 vW_who_55 vW_55 H locs ls hP hD hS hl hok
      obtain ⟨y55, hok, hL55, hR55⟩ := lp_step hok
      unfold fX8_steps_B55 at hok
      try dsimp only at hok
      refine lv_iload hx hb dX8_steps_55 (lv_at hl 4 rfl) ?_
      refine lv_iload_n hx hb dX8_steps_57 rfl (lv_at hl 2 rfl) ?_
      refine lv_icmp_gt (tgt := 89) hx hb dX8_steps_58 (by decide) (fun c58 => ?_) (fun c58 => ?_)
      · have hok := k_pos c58 hok
        obtain ⟨e55, hok, he55⟩ := ex_some hok
        have hok := hok.trans (congrArg some (hL55 _ he55))
        refine lv_aload_n hx hb dX8_steps_89 rfl (lv_at hl 0 rfl) ?_
        refine lv_iload_n hx hb dX8_steps_90 rfl (lv_at hl 3 rfl) ?_
        obtain ⟨⟨r91, vN_91⟩, hc91, hok⟩ := k_bind hok
        try dsimp only at hok
        refine kCi (wc := (wX8_answer cy aN qN aH aH vN)) (wc2 := (wX8_answer cy aN qN aH aH vN_91)) (wr := [(aH, oX4 vH qH), (qN 2, oX6 vW_55 qW aH), (qN 1, oX1 vD qD), (qD 0, rI cy 9 vD_now), (qW 1, rI cy 36 vW_who_55), (qH 14, rI cy 7 vH_kinds), (qW 0, rI cy 7 vW_cells_55), (qH 8, rI cy 4 vH_sorts), (qH 10, rI cy 36 vH_next), (qW 2, rI cy 7 vW_inFront_55), (qH 15, rI cy 7 vH_sizes), (qH 11, rI cy 36 vH_width)]) (ws2 := (wX8_steps cy aN qN aH qH qW aH0 qD aH aH vN_91 vH vW_55 vD vD_now vW_who_55 vH_kinds vW_cells_55 vH_sorts vH_next vW_inFront_55 vH_sizes vH_width)) (kRunV (As := [.int y3_55]) (rest := []) ⟨hx, hb, hml, hown, ht0⟩ (kX8_answer l D cy _ aN qN aH vN y3_55 r91 vN_91 hc91 _ rfl) (cwV 1 ht0 (gV wd538 wd539 wd540 wd57 wd541) rfl rfl rfl (by decide +kernel) ⟨Nat.le_of_ble_eq_true rfl, Nat.le_of_ble_eq_true rfl⟩) hK hN hP hD [0] rfl (by decide) 0 7 rfl rfl rfl hl.1 rfl (Nat.le_of_ble_eq_true rfl) dX8_steps_91 ⟨Nat.zero_le _, Nat.zero_le _⟩) hP hD hS hA [0] [1, 2, 3, 4, 5, 6, 7, 8, 9, 10, 11, 12] rfl rfl (by decide) (by decide) [12, 0, 1, 2, 3, 4, 5, 6, 7, 8, 9, 10, 11] (by decide) rfl rfl (fun H locs hP hD hS => ?_)
        cases hok
        subst hQe; exact W.iret hx hb hr (fun t ht hW => ⟨⟨_, (), rfl, rfl, by rw [ht]; exact hP, va_K.moved hW.alike hK, hD⟩, hS.F ht⟩) hS.2.2 dX8_steps_94
      · have hok := k_neg c58 hok
        refine lv_aload_n hx hb dX8_steps_61 rfl (lv_at hl 0 rfl) ?_
        refine va_get (D := D) (ci := 7) (v := .ref (qN 2)) (C := RX8) (T := TX8) (N := 9) hx hb ht0 niX8 hown hK hP 0 rfl rfl 2 (by decide) (ht0 _ wd578) (fun _ h9 => h9) rfl dX8_steps_62 ?_
        refine lv_iconst (v := 0) hx hb dX8_steps_65 (by decide) ?_
        obtain ⟨⟨vW_66, vW_cells_66, vW_who_66, vW_inFront_66⟩, hc66, hok⟩ := k_bind hok
        try dsimp only at hok
        refine kCv (wc := (wX6_pass cy (qN 2) qW aH qH aH vW_55 vH vW_cells_55 vH_next vW_who_55 vW_inFront_55 vH_sizes vH_width vH_kinds)) (wc2 := (wX6_pass cy (qN 2) qW aH qH aH vW_66 vH vW_cells_66 vH_next vW_who_66 vW_inFront_66 vH_sizes vH_width vH_kinds)) (wr := [(aN, oX8 vN qN aH), (qN 1, oX1 vD qD), (qD 0, rI cy 9 vD_now), (qH 8, rI cy 4 vH_sorts)]) (ws2 := (wX8_steps cy aN qN aH qH qW aH0 qD aH aH vN vH vW_66 vD vD_now vW_who_66 vH_kinds vW_cells_66 vH_sorts vH_next vW_inFront_66 vH_sizes vH_width)) (kRunV (As := [.int 0]) (rest := []) ⟨hx, hb, hml, hown, ht0⟩ (kX6_pass l D cy _ (qN 2) qW aH qH vW_55 vH vW_cells_55 vH_next vW_who_55 vW_inFront_55 vH_sizes vH_width vH_kinds (0 : Int32) vW_66 vW_cells_66 vW_who_66 vW_inFront_66 hc66 _ rfl) (cwV 1 ht0 (gV wd598 wd155 wd156 wd114 wd157) rfl rfl rfl (by decide +kernel) ⟨Nat.le_of_ble_eq_true rfl, Nat.le_of_ble_eq_true rfl⟩) hK hN hP hD [2, 1, 7, 9, 5, 10, 11, 12, 6] rfl (by decide) 2 5 rfl rfl rfl hl.1 rfl (Nat.le_of_ble_eq_true rfl) dX8_steps_66 ⟨Nat.zero_le _, Nat.zero_le _⟩) hP hD hS hA [2, 1, 7, 9, 5, 10, 11, 12, 6] [0, 3, 4, 8] rfl rfl (by decide) (by decide) [0, 5, 4, 1, 2, 8, 12, 6, 3, 7, 9, 10, 11] (by decide) rfl rfl (fun H locs hP hD hS => ?_)
        refine lv_iload_n hx hb dX8_steps_69 rfl (lv_at hl 3 rfl) ?_
        refine lv_aload_n hx hb dX8_steps_70 rfl (lv_at hl 0 rfl) ?_
        refine va_get (D := D) (ci := 7) (v := .ref (qN 2)) (C := RX8) (T := TX8) (N := 9) hx hb ht0 niX8 hown hK hP 0 rfl rfl 2 (by decide) (ht0 _ wd578) (fun _ h9 => h9) rfl dX8_steps_71 ?_
        obtain ⟨r74, hc74, hok⟩ := k_bind hok
        refine kCi (wc := (wX6_went cy (qN 2) qW aH aH vW_66)) (wc2 := (wX6_went cy (qN 2) qW aH aH vW_66)) (wr := [(aN, oX8 vN qN aH), (aH, oX4 vH qH), (qN 1, oX1 vD qD), (qD 0, rI cy 9 vD_now), (qW 1, rI cy 36 vW_who_66), (qH 14, rI cy 7 vH_kinds), (qW 0, rI cy 7 vW_cells_66), (qH 8, rI cy 4 vH_sorts), (qH 10, rI cy 36 vH_next), (qW 2, rI cy 7 vW_inFront_66), (qH 15, rI cy 7 vH_sizes), (qH 11, rI cy 36 vH_width)]) (ws2 := (wX8_steps cy aN qN aH qH qW aH0 qD aH aH vN vH vW_66 vD vD_now vW_who_66 vH_kinds vW_cells_66 vH_sorts vH_next vW_inFront_66 vH_sizes vH_width)) (kRunV (As := []) (rest := [.int y3_55]) ⟨hx, hb, hml, hown, ht0⟩ (kX6_went l D cy _ (qN 2) qW aH vW_66 r74 hc74 _ rfl) (cwV 0 ht0 (gV wd581 wd582 wd583 wd114 wd584) rfl rfl rfl (by decide +kernel) ⟨Nat.le_of_ble_eq_true rfl, Nat.le_of_ble_eq_true rfl⟩) hK hN hP hD [2] rfl (by decide) 2 5 rfl rfl rfl hl.1 rfl (Nat.le_of_ble_eq_true rfl) dX8_steps_74 ⟨Nat.zero_le _, Nat.zero_le _⟩) hP hD hS hA [2] [0, 1, 3, 4, 5, 6, 7, 8, 9, 10, 11, 12] rfl rfl (by decide) (by decide) [0, 1, 12, 2, 3, 4, 5, 6, 7, 8, 9, 10, 11] (by decide) rfl rfl (fun H locs hP hD hS => ?_)
        refine lv_iload_n hx hb dX8_steps_77 rfl (lv_at hl 1 rfl) ?_
        refine lv_ishr hx hb dX8_steps_78 ?_
        refine lv_iconst (v := 1) hx hb dX8_steps_79 (by decide) ?_
        refine lv_iand hx hb dX8_steps_80 ?_
        refine lv_iadd hx hb dX8_steps_81 ?_
        refine lv_istore_n (lv' := [(3, .int (y3_55 + ((isr r74 x1) &&& (1 : Int32)))), (0, .ref aN), (1, .int x1), (2, .int x2), (4, .int y4_55)]) hx hb dX8_steps_82 rfl hl (by decide) rfl (fun ls hl => ?_)
        refine lv_iinc (v := (y4_55 + 1)) (lv' := [(4, .int (y4_55 + 1)), (3, .int (y3_55 + ((isr r74 x1) &&& (1 : Int32)))), (0, .ref aN), (1, .int x1), (2, .int x2)]) hx hb dX8_steps_83 hl (k := 4) rfl (by first | rfl | decide) (by decide) rfl (fun ls hl => ?_)
        refine lv_goto (tgt := 55) hx hb dX8_steps_86 (by decide) ?_
        exact ih55 (y3_55 + ((isr r74 x1) &&& (1 : Int32))) (y4_55 + 1) vW_cells_66 vW_inFront_66 vW_who_66 vW_66 H locs ls hP hD hS (lv_sub hl [2, 3, 4, 1, 0] rfl) (hR55 _ (Option.some.inj hok).symm)
  have J28 : ∀ (H : Heap) (locs : List Loc) (ls : Array Slot), va_P D vwCl (wX8_steps cy aN qN aH qH qW aH0 qD aH aH0 vN vH vW vD vD_now vW_who vH_kinds vW_cells vH_sorts vH_next vW_inFront vH_sizes vH_width) H → va_D A (wX8_steps cy aN qN aH qH qW aH0 qD aH aH0 vN vH vW vD vD_now vW_who vH_kinds vW_cells vH_sorts vH_next vW_inFront vH_sizes vH_width) → va_S A s.heap H locs → lv_has ls 5 [(0, .ref aN)] → fX8_steps_J28 aH0 vN vW vW_who vW_cells vW_inFront = some (zr, z_vN, z_vW, z_vW_who, z_vW_cells, z_vW_inFront, z_aH0) → W p l e ({ frames := 3, cells := 0, slots := 0, locals := 73 } : Room) s m ([.ref aN, .int x1, .int x2] : List Value).toArray below meth c H locs 0 0 Q (F0 m 28 ls []) := by
    intro  H locs ls hP hD hS hl hok
    unfold fX8_steps_J28 at hok
    refine lv_aload_n hx hb dX8_steps_28 rfl (lv_at hl 0 rfl) ?_
    refine lv_iconst (v := 2) hx hb dX8_steps_29 (by decide) ?_
    obtain ⟨⟨r30, vN_30⟩, hc30, hok⟩ := k_bind hok
    try dsimp only at hok
    refine kCi (wc := (wX8_refuse cy aN qN aH aH vN)) (wc2 := (wX8_refuse cy aN qN aH aH vN_30)) (wr := [(aH, oX4 vH qH), (qN 2, oX6 vW qW aH0), (qN 1, oX1 vD qD), (qD 0, rI cy 9 vD_now), (qW 1, rI cy 36 vW_who), (qH 14, rI cy 7 vH_kinds), (qW 0, rI cy 7 vW_cells), (qH 8, rI cy 4 vH_sorts), (qH 10, rI cy 36 vH_next), (qW 2, rI cy 7 vW_inFront), (qH 15, rI cy 7 vH_sizes), (qH 11, rI cy 36 vH_width)]) (ws2 := (wX8_steps cy aN qN aH qH qW aH0 qD aH aH0 vN_30 vH vW vD vD_now vW_who vH_kinds vW_cells vH_sorts vH_next vW_inFront vH_sizes vH_width)) (kRunV (As := [.int 2]) (rest := []) ⟨hx, hb, hml, hown, ht0⟩ (kX8_refuse l D cy _ aN qN aH vN (2 : Int32) r30 vN_30 hc30 _ rfl) (cwV 1 ht0 (gV wd504 wd505 wd506 wd57 wd507) rfl rfl rfl (by decide +kernel) ⟨Nat.le_of_ble_eq_true rfl, Nat.le_of_ble_eq_true rfl⟩) hK hN hP hD [0] rfl (by decide) 0 7 rfl rfl rfl hl.1 rfl (Nat.le_of_ble_eq_true rfl) dX8_steps_30 ⟨Nat.zero_le _, Nat.zero_le _⟩) hP hD hS hA [0] [1, 2, 3, 4, 5, 6, 7, 8, 9, 10, 11, 12] rfl rfl (by decide) (by decide) [12, 0, 1, 2, 3, 4, 5, 6, 7, 8, 9, 10, 11] (by decide) rfl rfl (fun H locs hP hD hS => ?_)
    cases hok
    subst hQe; exact W.iret hx hb hr (fun t ht hW => ⟨⟨_, (), rfl, rfl, by rw [ht]; exact hP, va_K.moved hW.alike hK, hD⟩, hS.F ht⟩) hS.2.2 dX8_steps_33
  unfold fX8_steps at hok
  obtain ⟨H, hH⟩ : ∃ H, H = s.heap := ⟨_, rfl⟩
  obtain ⟨locs, hlc⟩ : ∃ x : List Loc, x = [] := ⟨_, rfl⟩
  have hP : va_P D vwCl (wX8_steps cy aN qN aH qH qW aH0 qD aH aH0 vN vH vW vD vD_now vW_who vH_kinds vW_cells vH_sorts vH_next vW_inFront vH_sizes vH_width) H := by rw [hH]; exact hP
  have hS : va_S A s.heap H locs := by rw [hH, hlc]; exact hS
  rw [show W p l e _ s m _ below meth c s.heap [] = W p l e _ s m _ below meth c H locs from by rw [hH, hlc]]
  refine lv_aload_n hx hb dX8_steps_0 rfl (lv_at hl 0 rfl) ?_
  refine va_get (D := D) (ci := 7) (v := .ref aH) (C := RX8) (T := TX8) (N := 9) hx hb ht0 niX8 hown hK hP 0 rfl rfl 5 (by decide) (ht0 _ wd522) (fun _ h9 => h9) rfl dX8_steps_1 ?_
  refine lv_iload_n hx hb dX8_steps_4 rfl (lv_at hl 1 rfl) ?_
  obtain ⟨r5, hc5, hok⟩ := k_bind hok
  refine kCi (wc := (wX4_hasThing cy aH qH vH)) (wc2 := (wX4_hasThing cy aH qH vH)) (wr := [(aN, oX8 vN qN aH), (qN 2, oX6 vW qW aH0), (qN 1, oX1 vD qD), (qD 0, rI cy 9 vD_now), (qW 1, rI cy 36 vW_who), (qH 14, rI cy 7 vH_kinds), (qW 0, rI cy 7 vW_cells), (qH 8, rI cy 4 vH_sorts), (qH 10, rI cy 36 vH_next), (qW 2, rI cy 7 vW_inFront), (qH 15, rI cy 7 vH_sizes), (qH 11, rI cy 36 vH_width)]) (ws2 := (wX8_steps cy aN qN aH qH qW aH0 qD aH aH0 vN vH vW vD vD_now vW_who vH_kinds vW_cells vH_sorts vH_next vW_inFront vH_sizes vH_width)) (kRunV (As := [.int x1]) (rest := []) ⟨hx, hb, hml, hown, ht0⟩ (kX4_hasThing l D cy _ aH qH vH x1 r5 hc5 _ rfl) (cwV 1 ht0 (gV wd551 wd552 wd553 wd9 wd554) rfl rfl rfl (by decide +kernel) ⟨Nat.le_of_ble_eq_true rfl, Nat.le_of_ble_eq_true rfl⟩) hK hN hP hD [1] rfl (by decide) 1 3 rfl rfl rfl hl.1 rfl (Nat.le_of_ble_eq_true rfl) dX8_steps_5 ⟨Nat.zero_le _, Nat.zero_le _⟩) hP hD hS hA [1] [0, 2, 3, 4, 5, 6, 7, 8, 9, 10, 11, 12] rfl rfl (by decide) (by decide) [0, 12, 1, 2, 3, 4, 5, 6, 7, 8, 9, 10, 11] (by decide) rfl rfl (fun H locs hP hD hS => ?_)
  refine lv_if_ne (tgt := 17) hx hb dX8_steps_8 (by decide) (fun c8 => ?_) (fun c8 => ?_)
  · have hok := k_neg c8 hok
    refine lv_iload_n hx hb dX8_steps_17 rfl (lv_at hl 2 rfl) ?_
    refine lv_if_lt (tgt := 28) hx hb dX8_steps_18 (by decide) (fun c18 => ?_) (fun c18 => ?_)
    · have hok := k_pos c18 hok
      exact J28  H locs ls hP hD hS (lv_sub hl [0] rfl) hok
    · have hok := k_neg c18 hok
      refine lv_iload_n hx hb dX8_steps_21 rfl (lv_at hl 2 rfl) ?_
      refine lv_sipush (v := 200) hx hb dX8_steps_22 (by decide) ?_
      refine lv_icmp_le (tgt := 34) hx hb dX8_steps_25 (by decide) (fun c25 => ?_) (fun c25 => ?_)
      · have hok := k_pos c25 hok
        refine lv_iconst (v := 0) hx hb dX8_steps_34 (by decide) ?_
        refine lv_istore_n (lv' := [(3, .int 0), (0, .ref aN), (1, .int x1), (2, .int x2)]) hx hb dX8_steps_35 rfl hl (by decide) rfl (fun ls hl => ?_)
        refine lv_aload_n hx hb dX8_steps_36 rfl (lv_at hl 1 rfl) ?_
        refine va_get (D := D) (ci := 7) (v := .ref (qN 2)) (C := RX8) (T := TX8) (N := 9) hx hb ht0 niX8 hown hK hP 0 rfl rfl 2 (by decide) (ht0 _ wd578) (fun _ h9 => h9) rfl dX8_steps_37 ?_
        refine lv_aload_n hx hb dX8_steps_40 rfl (lv_at hl 1 rfl) ?_
        refine va_get (D := D) (ci := 7) (v := .ref aH) (C := RX8) (T := TX8) (N := 9) hx hb ht0 niX8 hown hK hP 0 rfl rfl 5 (by decide) (ht0 _ wd522) (fun _ h9 => h9) rfl dX8_steps_41 ?_
        refine lv_aload_n hx hb dX8_steps_44 rfl (lv_at hl 1 rfl) ?_
        refine va_get (D := D) (ci := 7) (v := .ref (qN 1)) (C := RX8) (T := TX8) (N := 9) hx hb ht0 niX8 hown hK hP 0 rfl rfl 1 (by decide) (ht0 _ wd527) (fun _ h9 => h9) rfl dX8_steps_45 ?_
        refine lv_iconst (v := 0) hx hb dX8_steps_48 (by decide) ?_
        obtain ⟨⟨vW_49, vW_who_49, vW_cells_49⟩, hc49, hok⟩ := k_bind hok
        try dsimp only at hok
        refine kCv (wc := (wX6_start cy (qN 2) aH (qN 1) qW aH0 qD qH aH0 vW vD vD_now vW_who vH vH_kinds vW_cells vH_sorts)) (wc2 := (wX6_start cy (qN 2) aH (qN 1) qW aH0 qD qH aH vW_49 vD vD_now vW_who_49 vH vH_kinds vW_cells_49 vH_sorts)) (wr := [(aN, oX8 vN qN aH), (qH 10, rI cy 36 vH_next), (qW 2, rI cy 7 vW_inFront), (qH 15, rI cy 7 vH_sizes), (qH 11, rI cy 36 vH_width)]) (ws2 := (wX8_steps cy aN qN aH qH qW aH0 qD aH aH vN vH vW_49 vD vD_now vW_who_49 vH_kinds vW_cells_49 vH_sorts vH_next vW_inFront vH_sizes vH_width)) (kRunV (As := [.ref aH, .ref (qN 1), .int 0]) (rest := []) ⟨hx, hb, hml, hown, ht0⟩ (kX6_start l D cy _ (qN 2) aH (qN 1) qW aH0 qD qH vW vD vD_now vW_who vH vH_kinds vW_cells vH_sorts (0 : Int32) vW_49 vW_who_49 vW_cells_49 hc49 _ rfl) (cwV 3 ht0 (gV wd579 wd181 wd182 wd114 wd183) rfl rfl rfl (by decide +kernel) ⟨Nat.le_of_ble_eq_true rfl, Nat.le_of_ble_eq_true rfl⟩) hK hN hP hD [2, 3, 4, 5, 1, 6, 7, 8] rfl (by decide) 2 5 rfl rfl rfl hl.1 rfl (Nat.le_of_ble_eq_true rfl) dX8_steps_49 ⟨Nat.zero_le _, Nat.zero_le _⟩) hP hD hS hA [2, 3, 4, 5, 1, 6, 7, 8] [0, 9, 10, 11, 12] rfl rfl (by decide) (by decide) [0, 9, 5, 6, 7, 8, 10, 11, 12, 1, 2, 3, 4] (by decide) rfl rfl (fun H locs hP hD hS => ?_)
        refine lv_iconst (v := 1) hx hb dX8_steps_52 (by decide) ?_
        refine lv_istore (lv' := [(4, .int 1), (3, .int 0), (0, .ref aN), (1, .int x1), (2, .int x2)]) hx hb dX8_steps_53 hl (by decide) rfl (fun ls hl => ?_)
        exact L55 5000 (0 : Int32) (1 : Int32) vW_cells_49 vW_inFront vW_who_49 vW_49 H locs ls hP hD hS (lv_sub hl [2, 3, 4, 1, 0] rfl) hok
      · have hok := k_neg c25 hok
        exact J28  H locs ls hP hD hS (lv_sub hl [0] rfl) hok
  · have hok := k_pos c8 hok
    refine lv_aload_n hx hb dX8_steps_11 rfl (lv_at hl 0 rfl) ?_
    refine lv_iconst (v := 1) hx hb dX8_steps_12 (by decide) ?_
    obtain ⟨⟨r13, vN_13⟩, hc13, hok⟩ := k_bind hok
    try dsimp only at hok
    refine kCi (wc := (wX8_refuse cy aN qN aH aH vN)) (wc2 := (wX8_refuse cy aN qN aH aH vN_13)) (wr := [(aH, oX4 vH qH), (qN 2, oX6 vW qW aH0), (qN 1, oX1 vD qD), (qD 0, rI cy 9 vD_now), (qW 1, rI cy 36 vW_who), (qH 14, rI cy 7 vH_kinds), (qW 0, rI cy 7 vW_cells), (qH 8, rI cy 4 vH_sorts), (qH 10, rI cy 36 vH_next), (qW 2, rI cy 7 vW_inFront), (qH 15, rI cy 7 vH_sizes), (qH 11, rI cy 36 vH_width)]) (ws2 := (wX8_steps cy aN qN aH qH qW aH0 qD aH aH0 vN_13 vH vW vD vD_now vW_who vH_kinds vW_cells vH_sorts vH_next vW_inFront vH_sizes vH_width)) (kRunV (As := [.int 1]) (rest := []) ⟨hx, hb, hml, hown, ht0⟩ (kX8_refuse l D cy _ aN qN aH vN (1 : Int32) r13 vN_13 hc13 _ rfl) (cwV 1 ht0 (gV wd504 wd505 wd506 wd57 wd507) rfl rfl rfl (by decide +kernel) ⟨Nat.le_of_ble_eq_true rfl, Nat.le_of_ble_eq_true rfl⟩) hK hN hP hD [0] rfl (by decide) 0 7 rfl rfl rfl hl.1 rfl (Nat.le_of_ble_eq_true rfl) dX8_steps_13 ⟨Nat.zero_le _, Nat.zero_le _⟩) hP hD hS hA [0] [1, 2, 3, 4, 5, 6, 7, 8, 9, 10, 11, 12] rfl rfl (by decide) (by decide) [12, 0, 1, 2, 3, 4, 5, 6, 7, 8, 9, 10, 11] (by decide) rfl rfl (fun H locs hP hD hS => ?_)
    cases hok
    subst hQe; exact W.iret hx hb hr (fun t ht hW => ⟨⟨_, (), rfl, rfl, by rw [ht]; exact hP, va_K.moved hW.alike hK, hD⟩, hS.F ht⟩) hS.2.2 dX8_steps_16
def wsX8_meetings : List Cond := .code yX8_meetings cX8_meetings 6 (some .int) :: W0
abbrev wX8_meetings (cy : Nat → ClassId) (aN : Nat) (qN : Nat → Nat) (aH : Nat) (qH : Nat → Nat) (qW : Nat → Nat) (aH0 : Nat) (qD : Nat → Nat) (fvN_5 : Nat) (fvW_4 : Nat) (vN : Nat → Int32) (vH : Nat → Int32) (vW : Nat → Int32) (vD : Nat → Int32) (vD_now : Nat → Int32) (vW_who : Nat → Int32) (vH_kinds : Nat → Int32) (vW_cells : Nat → Int32) (vH_sorts : Nat → Int32) (vH_next : Nat → Int32) (vW_inFront : Nat → Int32) (vH_sizes : Nat → Int32) (vH_width : Nat → Int32) (vH_doorOne : Nat → Int32) (vH_doorTwo : Nat → Int32) : va_W := [(aN, oX8 vN qN fvN_5), (aH, oX4 vH qH), (qN 2, oX6 vW qW fvW_4), (qN 1, oX1 vD qD), (qD 0, rI cy 9 vD_now), (qW 1, rI cy 36 vW_who), (qH 14, rI cy 7 vH_kinds), (qW 0, rI cy 7 vW_cells), (qH 8, rI cy 4 vH_sorts), (qH 10, rI cy 36 vH_next), (qW 2, rI cy 7 vW_inFront), (qH 15, rI cy 7 vH_sizes), (qH 11, rI cy 36 vH_width), (qH 12, rI cy 5 vH_doorOne), (qH 13, rI cy 5 vH_doorTwo)]
set_option maxHeartbeats 4000000 in
set_option maxRecDepth 100000 in
theorem kX8_meetings (l : Launch) (D : va_G) (cy : Nat → ClassId) (sz : Nat) (aN : Nat) (qN : Nat → Nat) (aH : Nat) (qH : Nat → Nat) (qW : Nat → Nat) (aH0 : Nat) (qD : Nat → Nat) (vN : Nat → Int32) (vH : Nat → Int32) (vW : Nat → Int32) (vD : Nat → Int32) (vD_now : Nat → Int32) (vW_who : Nat → Int32) (vH_kinds : Nat → Int32) (vW_cells : Nat → Int32) (vH_sorts : Nat → Int32) (vH_next : Nat → Int32) (vW_inFront : Nat → Int32) (vH_sizes : Nat → Int32) (vH_width : Nat → Int32) (vH_doorOne : Nat → Int32) (vH_doorTwo : Nat → Int32) (x1 : Int32) (x2 : Int32) (x3 : Int32) (zr : Int32) (z_vN : Nat → Int32) (z_vW : Nat → Int32) (z_vW_who : Nat → Int32) (z_vW_cells : Nat → Int32) (z_vW_inFront : Nat → Int32) (z_aH0 : Nat) (hok : fX8_meetings aH aH0 vN vH vW vD vD_now vW_who vH_kinds vW_cells vH_sorts vH_next vW_inFront vH_sizes vH_width vH_doorOne vH_doorTwo x1 x2 x3 = some (zr, z_vN, z_vW, z_vW_who, z_vW_cells, z_vW_inFront, z_aH0)) (A : Nat → Prop) (hAe : va_A (wX8_meetings cy aN qN aH qH qW aH0 qD aH aH0 vN vH vW vD vD_now vW_who vH_kinds vW_cells vH_sorts vH_next vW_inFront vH_sizes vH_width vH_doorOne vH_doorTwo) sz = A) : Met l yX8_meetings wsX8_meetings ({ frames := 3, cells := 0, slots := 0, locals := 73 } : Room) (kPre D cy [.ref aN, .int x1, .int x2, .int x3] (wX8_meetings cy aN qN aH qH qW aH0 qD aH aH0 vN vH vW vD vD_now vW_who vH_kinds vW_cells vH_sorts vH_next vW_inFront vH_sizes vH_width vH_doorOne vH_doorTwo) sz) (kQi D cy zr A (wX8_meetings cy aN qN aH qH qW aH0 qD aH z_aH0 z_vN vH z_vW vD vD_now z_vW_who vH_kinds z_vW_cells vH_sorts vH_next z_vW_inFront vH_sizes vH_width vH_doorOne vH_doorTwo)) 0 0 A := by
  refine Met.ofW (cc := cX8_meetings) (maxL := 6) (ret := (some .int)) (by decide) rfl ?_
  intro p e s m args below meth c s₁ B hml hv
  obtain ⟨rfl, hsz, hP, hK, hD0, hN⟩ := hv
  have hx := B.exec
  have hb := B.bytes
  have hr := B.returns
  have ht0 : ∀ w ∈ W0, w.before _ s = true := fun w h => atoms_spec (ws := wsX8_meetings) B.pre w (List.mem_cons_of_mem _ h)
  have hown : s.vm.findClass RX8 = some m.cls := findClass_of_methodNamed B.named
  have hlocks := B.notSynchronized
  subst hsz
  have hD : va_D A (wX8_meetings cy aN qN aH qH qW aH0 qD aH aH0 vN vH vW vD vD_now vW_who vH_kinds vW_cells vH_sorts vH_next vW_inFront vH_sizes vH_width vH_doorOne vH_doorTwo) := by rw [← hAe]; exact hD0.self
  have hA : ∀ q : Nat, s.heap.size ≤ q → A q := fun q h => by rw [← hAe]; exact Or.inr h
  have hS : va_S A s.heap s.heap [] := va_S.rf
  have hl := lv_entry ([.ref aN, .int x1, .int x2, .int x3]) (n := 6) (Nat.le_of_ble_eq_true rfl)
  rw [lg_entry_eq]
  generalize (lg_sl ([.ref aN, .int x1, .int x2, .int x3]) ++ List.replicate (6 - (lg_sl ([.ref aN, .int x1, .int x2, .int x3])).length) Slot.unset).toArray = ls at hl ⊢
  have hl : lv_has ls 6 [(0, .ref aN), (1, .int x1), (2, .int x2), (3, .int x3)] := hl
  generalize hQe : MQ below (kQi D cy zr A (wX8_meetings cy aN qN aH qH qW aH0 qD aH z_aH0 z_vN vH z_vW vD vD_now z_vW_who vH_kinds z_vW_cells vH_sorts vH_next z_vW_inFront vH_sizes vH_width vH_doorOne vH_doorTwo)) ([.ref aN, .int x1, .int x2, .int x3] : List Value).toArray s 0 0 A = Q
  have L54 : ∀ (fuel : Nat) (y4_54 : Int32) (y5_54 : Int32) (vW_cells_54 : Nat → Int32) (vW_inFront_54 : Nat → Int32) (vW_who_54 : Nat → Int32) (vW_54 : Nat → Int32), ∀ (H : Heap) (locs : List Loc) (ls : Array Slot), va_P D vwCl (wX8_meetings cy aN qN aH qH qW aH0 qD aH aH vN vH vW_54 vD vD_now vW_who_54 vH_kinds vW_cells_54 vH_sorts vH_next vW_inFront_54 vH_sizes vH_width vH_doorOne vH_doorTwo) H → va_D A (wX8_meetings cy aN qN aH qH qW aH0 qD aH aH vN vH vW_54 vD vD_now vW_who_54 vH_kinds vW_cells_54 vH_sorts vH_next vW_inFront_54 vH_sizes vH_width vH_doorOne vH_doorTwo) → va_S A s.heap H locs → lv_has ls 6 [(0, .ref aN), (1, .int x1), (2, .int x2), (3, .int x3), (4, .int y4_54), (5, .int y5_54)] → lp (fX8_meetings_B54 aH vN vH vH_kinds vH_next vH_sizes vH_width vH_doorOne vH_doorTwo x1 x2 x3) fuel (y4_54, y5_54, vW_cells_54, vW_inFront_54, vW_who_54, vW_54) = some (zr, z_vN, z_vW, z_vW_who, z_vW_cells, z_vW_inFront, z_aH0) → W p l e ({ frames := 3, cells := 0, slots := 0, locals := 73 } : Room) s m ([.ref aN, .int x1, .int x2, .int x3] : List Value).toArray below meth c H locs 0 0 Q (F0 m 54 ls []) := by
    intro fuel
    induction fuel with
    | zero => intro y4_54 y5_54 vW_cells_54 vW_inFront_54 vW_who_54 vW_54 H locs ls hP hD hS hl hok; exact (lp_0 hok).elim
    | succ fuel ih54 =>
      intro y4_54 y5_54 vW_cells_54 vW_inFront_54 vW_who_54 vW_54 H locs ls hP hD hS hl hok
      obtain ⟨y54, hok, hL54, hR54⟩ := lp_step hok
      have J87 : ∀ (t0_87 : Int32) (vW_cells_87 : Nat → Int32) (vW_inFront_87 : Nat → Int32) (vW_who_87 : Nat → Int32) (vW_87 : Nat → Int32), ∀ (H : Heap) (locs : List Loc) (ls : Array Slot), va_P D vwCl (wX8_meetings cy aN qN aH qH qW aH0 qD aH aH vN vH vW_87 vD vD_now vW_who_87 vH_kinds vW_cells_87 vH_sorts vH_next vW_inFront_87 vH_sizes vH_width vH_doorOne vH_doorTwo) H → va_D A (wX8_meetings cy aN qN aH qH qW aH0 qD aH aH vN vH vW_87 vD vD_now vW_who_87 vH_kinds vW_cells_87 vH_sorts vH_next vW_inFront_87 vH_sizes vH_width vH_doorOne vH_doorTwo) → va_S A s.heap H locs → lv_has ls 6 [(0, .ref aN), (1, .int x1), (2, .int x2), (3, .int x3), (5, .int y5_54)] → fX8_meetings_J87 y4_54 y5_54 t0_87 vW_cells_87 vW_inFront_87 vW_who_87 vW_87 = some y54 → W p l e ({ frames := 3, cells := 0, slots := 0, locals := 73 } : Room) s m ([.ref aN, .int x1, .int x2, .int x3] : List Value).toArray below meth c H locs 0 0 Q (F0 m 87 ls [.int t0_87, .int y4_54]) := by
        intro t0_87 vW_cells_87 vW_inFront_87 vW_who_87 vW_87 H locs ls hP hD hS hl hok
        unfold fX8_meetings_J87 at hok
        refine lv_iadd hx hb dX8_meetings_87 ?_
        refine lv_istore (lv' := [(4, .int (y4_54 + t0_87)), (0, .ref aN), (1, .int x1), (2, .int x2), (3, .int x3), (5, .int y5_54)]) hx hb dX8_meetings_88 hl (by decide) rfl (fun ls hl => ?_)
        refine lv_iinc (v := (y5_54 + 1)) (lv' := [(5, .int (y5_54 + 1)), (4, .int (y4_54 + t0_87)), (0, .ref aN), (1, .int x1), (2, .int x2), (3, .int x3)]) hx hb dX8_meetings_90 hl (k := 5) rfl (by first | rfl | decide) (by decide) rfl (fun ls hl => ?_)
        refine lv_goto (tgt := 54) hx hb dX8_meetings_93 (by decide) ?_
        exact ih54 (y4_54 + t0_87) (y5_54 + 1) vW_cells_87 vW_inFront_87 vW_who_87 vW_87 H locs ls hP hD hS (lv_sub hl [2, 3, 4, 5, 1, 0] rfl) (hR54 _ (Option.some.inj hok).symm)
      unfold fX8_meetings_B54 at hok
      try dsimp only at hok
      refine lv_iload hx hb dX8_meetings_54 (lv_at hl 5 rfl) ?_
      refine lv_iload_n hx hb dX8_meetings_56 rfl (lv_at hl 3 rfl) ?_
      refine lv_icmp_gt (tgt := 96) hx hb dX8_meetings_57 (by decide) (fun c57 => ?_) (fun c57 => ?_)
      · have hok := k_pos c57 hok
        obtain ⟨e54, hok, he54⟩ := ex_some hok
        have hok := hok.trans (congrArg some (hL54 _ he54))
        refine lv_aload_n hx hb dX8_meetings_96 rfl (lv_at hl 0 rfl) ?_
        refine lv_iload hx hb dX8_meetings_97 (lv_at hl 4 rfl) ?_
        obtain ⟨⟨r99, vN_99⟩, hc99, hok⟩ := k_bind hok
        try dsimp only at hok
        refine kCi (wc := (wX8_answer cy aN qN aH aH vN)) (wc2 := (wX8_answer cy aN qN aH aH vN_99)) (wr := [(aH, oX4 vH qH), (qN 2, oX6 vW_54 qW aH), (qN 1, oX1 vD qD), (qD 0, rI cy 9 vD_now), (qW 1, rI cy 36 vW_who_54), (qH 14, rI cy 7 vH_kinds), (qW 0, rI cy 7 vW_cells_54), (qH 8, rI cy 4 vH_sorts), (qH 10, rI cy 36 vH_next), (qW 2, rI cy 7 vW_inFront_54), (qH 15, rI cy 7 vH_sizes), (qH 11, rI cy 36 vH_width), (qH 12, rI cy 5 vH_doorOne), (qH 13, rI cy 5 vH_doorTwo)]) (ws2 := (wX8_meetings cy aN qN aH qH qW aH0 qD aH aH vN_99 vH vW_54 vD vD_now vW_who_54 vH_kinds vW_cells_54 vH_sorts vH_next vW_inFront_54 vH_sizes vH_width vH_doorOne vH_doorTwo)) (kRunV (As := [.int y4_54]) (rest := []) ⟨hx, hb, hml, hown, ht0⟩ (kX8_answer l D cy _ aN qN aH vN y4_54 r99 vN_99 hc99 _ rfl) (cwV 1 ht0 (gV wd538 wd539 wd540 wd57 wd541) rfl rfl rfl (by decide +kernel) ⟨Nat.le_of_ble_eq_true rfl, Nat.le_of_ble_eq_true rfl⟩) hK hN hP hD [0] rfl (by decide) 0 7 rfl rfl rfl hl.1 rfl (Nat.le_of_ble_eq_true rfl) dX8_meetings_99 ⟨Nat.zero_le _, Nat.zero_le _⟩) hP hD hS hA [0] [1, 2, 3, 4, 5, 6, 7, 8, 9, 10, 11, 12, 13, 14] rfl rfl (by decide) (by decide) [14, 0, 1, 2, 3, 4, 5, 6, 7, 8, 9, 10, 11, 12, 13] (by decide) rfl rfl (fun H locs hP hD hS => ?_)
        cases hok
        subst hQe; exact W.iret hx hb hr (fun t ht hW => ⟨⟨_, (), rfl, rfl, by rw [ht]; exact hP, va_K.moved hW.alike hK, hD⟩, hS.F ht⟩) hS.2.2 dX8_meetings_102
      · have hok := k_neg c57 hok
        refine lv_aload_n hx hb dX8_meetings_60 rfl (lv_at hl 0 rfl) ?_
        refine va_get (D := D) (ci := 7) (v := .ref (qN 2)) (C := RX8) (T := TX8) (N := 9) hx hb ht0 niX8 hown hK hP 0 rfl rfl 2 (by decide) (ht0 _ wd578) (fun _ h9 => h9) rfl dX8_meetings_61 ?_
        refine lv_iconst (v := 0) hx hb dX8_meetings_64 (by decide) ?_
        obtain ⟨⟨vW_65, vW_cells_65, vW_who_65, vW_inFront_65⟩, hc65, hok⟩ := k_bind hok
        try dsimp only at hok
        refine kCv (wc := (wX6_pass cy (qN 2) qW aH qH aH vW_54 vH vW_cells_54 vH_next vW_who_54 vW_inFront_54 vH_sizes vH_width vH_kinds)) (wc2 := (wX6_pass cy (qN 2) qW aH qH aH vW_65 vH vW_cells_65 vH_next vW_who_65 vW_inFront_65 vH_sizes vH_width vH_kinds)) (wr := [(aN, oX8 vN qN aH), (qN 1, oX1 vD qD), (qD 0, rI cy 9 vD_now), (qH 8, rI cy 4 vH_sorts), (qH 12, rI cy 5 vH_doorOne), (qH 13, rI cy 5 vH_doorTwo)]) (ws2 := (wX8_meetings cy aN qN aH qH qW aH0 qD aH aH vN vH vW_65 vD vD_now vW_who_65 vH_kinds vW_cells_65 vH_sorts vH_next vW_inFront_65 vH_sizes vH_width vH_doorOne vH_doorTwo)) (kRunV (As := [.int 0]) (rest := []) ⟨hx, hb, hml, hown, ht0⟩ (kX6_pass l D cy _ (qN 2) qW aH qH vW_54 vH vW_cells_54 vH_next vW_who_54 vW_inFront_54 vH_sizes vH_width vH_kinds (0 : Int32) vW_65 vW_cells_65 vW_who_65 vW_inFront_65 hc65 _ rfl) (cwV 1 ht0 (gV wd598 wd155 wd156 wd114 wd157) rfl rfl rfl (by decide +kernel) ⟨Nat.le_of_ble_eq_true rfl, Nat.le_of_ble_eq_true rfl⟩) hK hN hP hD [2, 1, 7, 9, 5, 10, 11, 12, 6] rfl (by decide) 2 5 rfl rfl rfl hl.1 rfl (Nat.le_of_ble_eq_true rfl) dX8_meetings_65 ⟨Nat.zero_le _, Nat.zero_le _⟩) hP hD hS hA [2, 1, 7, 9, 5, 10, 11, 12, 6] [0, 3, 4, 8, 13, 14] rfl rfl (by decide) (by decide) [0, 7, 6, 1, 2, 10, 14, 8, 3, 9, 11, 12, 13, 4, 5] (by decide) rfl rfl (fun H locs hP hD hS => ?_)
        refine lv_iload hx hb dX8_meetings_68 (lv_at hl 4 rfl) ?_
        refine lv_aload_n hx hb dX8_meetings_70 rfl (lv_at hl 0 rfl) ?_
        refine va_get (D := D) (ci := 7) (v := .ref (qN 2)) (C := RX8) (T := TX8) (N := 9) hx hb ht0 niX8 hown hK hP 0 rfl rfl 2 (by decide) (ht0 _ wd578) (fun _ h9 => h9) rfl dX8_meetings_71 ?_
        refine lv_iload_n hx hb dX8_meetings_74 rfl (lv_at hl 1 rfl) ?_
        refine lv_iload_n hx hb dX8_meetings_75 rfl (lv_at hl 2 rfl) ?_
        obtain ⟨r76, hc76, hok⟩ := k_bind hok
        refine kCi (wc := (wX6_atDoor cy (qN 2) qW aH qH aH vW_65 vW_cells_65 vH vH_doorOne vH_doorTwo)) (wc2 := (wX6_atDoor cy (qN 2) qW aH qH aH vW_65 vW_cells_65 vH vH_doorOne vH_doorTwo)) (wr := [(aN, oX8 vN qN aH), (qN 1, oX1 vD qD), (qD 0, rI cy 9 vD_now), (qW 1, rI cy 36 vW_who_65), (qH 14, rI cy 7 vH_kinds), (qH 8, rI cy 4 vH_sorts), (qH 10, rI cy 36 vH_next), (qW 2, rI cy 7 vW_inFront_65), (qH 15, rI cy 7 vH_sizes), (qH 11, rI cy 36 vH_width)]) (ws2 := (wX8_meetings cy aN qN aH qH qW aH0 qD aH aH vN vH vW_65 vD vD_now vW_who_65 vH_kinds vW_cells_65 vH_sorts vH_next vW_inFront_65 vH_sizes vH_width vH_doorOne vH_doorTwo)) (kRunV (As := [.int x1, .int x2]) (rest := [.int y4_54]) ⟨hx, hb, hml, hown, ht0⟩ (kX6_atDoor l D cy _ (qN 2) qW aH qH vW_65 vW_cells_65 vH vH_doorOne vH_doorTwo x1 x2 r76 hc76 _ rfl) (cwV 2 ht0 (gV wd599 wd172 wd173 wd114 wd174) rfl rfl rfl (by decide +kernel) ⟨Nat.le_of_ble_eq_true rfl, Nat.le_of_ble_eq_true rfl⟩) hK hN hP hD [2, 7, 1, 13, 14] rfl (by decide) 2 5 rfl rfl rfl hl.1 rfl (Nat.le_of_ble_eq_true rfl) dX8_meetings_76 ⟨Nat.zero_le _, Nat.zero_le _⟩) hP hD hS hA [2, 7, 1, 13, 14] [0, 3, 4, 5, 6, 8, 9, 10, 11, 12] rfl rfl (by decide) (by decide) [0, 12, 10, 1, 2, 3, 4, 11, 5, 6, 7, 8, 9, 13, 14] (by decide) rfl rfl (fun H locs hP hD hS => ?_)
        refine lv_if_eq (tgt := 86) hx hb dX8_meetings_79 (by decide) (fun c79 => ?_) (fun c79 => ?_)
        · have hok := k_pos c79 hok
          refine lv_iconst (v := 0) hx hb dX8_meetings_86 (by decide) ?_
          exact J87 (0 : Int32) vW_cells_65 vW_inFront_65 vW_who_65 vW_65 H locs ls hP hD hS (lv_sub hl [0, 1, 2, 3, 5] rfl) hok
        · have hok := k_neg c79 hok
          refine lv_iconst (v := 1) hx hb dX8_meetings_82 (by decide) ?_
          refine lv_goto (tgt := 87) hx hb dX8_meetings_83 (by decide) ?_
          exact J87 (1 : Int32) vW_cells_65 vW_inFront_65 vW_who_65 vW_65 H locs ls hP hD hS (lv_sub hl [0, 1, 2, 3, 5] rfl) hok
  have J26 : ∀ (H : Heap) (locs : List Loc) (ls : Array Slot), va_P D vwCl (wX8_meetings cy aN qN aH qH qW aH0 qD aH aH0 vN vH vW vD vD_now vW_who vH_kinds vW_cells vH_sorts vH_next vW_inFront vH_sizes vH_width vH_doorOne vH_doorTwo) H → va_D A (wX8_meetings cy aN qN aH qH qW aH0 qD aH aH0 vN vH vW vD vD_now vW_who vH_kinds vW_cells vH_sorts vH_next vW_inFront vH_sizes vH_width vH_doorOne vH_doorTwo) → va_S A s.heap H locs → lv_has ls 6 [(0, .ref aN)] → fX8_meetings_J26 aH0 vN vW vW_who vW_cells vW_inFront = some (zr, z_vN, z_vW, z_vW_who, z_vW_cells, z_vW_inFront, z_aH0) → W p l e ({ frames := 3, cells := 0, slots := 0, locals := 73 } : Room) s m ([.ref aN, .int x1, .int x2, .int x3] : List Value).toArray below meth c H locs 0 0 Q (F0 m 26 ls []) := by
    intro  H locs ls hP hD hS hl hok
    unfold fX8_meetings_J26 at hok
    refine lv_aload_n hx hb dX8_meetings_26 rfl (lv_at hl 0 rfl) ?_
    refine lv_iconst (v := 2) hx hb dX8_meetings_27 (by decide) ?_
    obtain ⟨⟨r28, vN_28⟩, hc28, hok⟩ := k_bind hok
    try dsimp only at hok
    refine kCi (wc := (wX8_refuse cy aN qN aH aH vN)) (wc2 := (wX8_refuse cy aN qN aH aH vN_28)) (wr := [(aH, oX4 vH qH), (qN 2, oX6 vW qW aH0), (qN 1, oX1 vD qD), (qD 0, rI cy 9 vD_now), (qW 1, rI cy 36 vW_who), (qH 14, rI cy 7 vH_kinds), (qW 0, rI cy 7 vW_cells), (qH 8, rI cy 4 vH_sorts), (qH 10, rI cy 36 vH_next), (qW 2, rI cy 7 vW_inFront), (qH 15, rI cy 7 vH_sizes), (qH 11, rI cy 36 vH_width), (qH 12, rI cy 5 vH_doorOne), (qH 13, rI cy 5 vH_doorTwo)]) (ws2 := (wX8_meetings cy aN qN aH qH qW aH0 qD aH aH0 vN_28 vH vW vD vD_now vW_who vH_kinds vW_cells vH_sorts vH_next vW_inFront vH_sizes vH_width vH_doorOne vH_doorTwo)) (kRunV (As := [.int 2]) (rest := []) ⟨hx, hb, hml, hown, ht0⟩ (kX8_refuse l D cy _ aN qN aH vN (2 : Int32) r28 vN_28 hc28 _ rfl) (cwV 1 ht0 (gV wd504 wd505 wd506 wd57 wd507) rfl rfl rfl (by decide +kernel) ⟨Nat.le_of_ble_eq_true rfl, Nat.le_of_ble_eq_true rfl⟩) hK hN hP hD [0] rfl (by decide) 0 7 rfl rfl rfl hl.1 rfl (Nat.le_of_ble_eq_true rfl) dX8_meetings_28 ⟨Nat.zero_le _, Nat.zero_le _⟩) hP hD hS hA [0] [1, 2, 3, 4, 5, 6, 7, 8, 9, 10, 11, 12, 13, 14] rfl rfl (by decide) (by decide) [14, 0, 1, 2, 3, 4, 5, 6, 7, 8, 9, 10, 11, 12, 13] (by decide) rfl rfl (fun H locs hP hD hS => ?_)
    cases hok
    subst hQe; exact W.iret hx hb hr (fun t ht hW => ⟨⟨_, (), rfl, rfl, by rw [ht]; exact hP, va_K.moved hW.alike hK, hD⟩, hS.F ht⟩) hS.2.2 dX8_meetings_31
  unfold fX8_meetings at hok
  obtain ⟨H, hH⟩ : ∃ H, H = s.heap := ⟨_, rfl⟩
  obtain ⟨locs, hlc⟩ : ∃ x : List Loc, x = [] := ⟨_, rfl⟩
  have hP : va_P D vwCl (wX8_meetings cy aN qN aH qH qW aH0 qD aH aH0 vN vH vW vD vD_now vW_who vH_kinds vW_cells vH_sorts vH_next vW_inFront vH_sizes vH_width vH_doorOne vH_doorTwo) H := by rw [hH]; exact hP
  have hS : va_S A s.heap H locs := by rw [hH, hlc]; exact hS
  rw [show W p l e _ s m _ below meth c s.heap [] = W p l e _ s m _ below meth c H locs from by rw [hH, hlc]]
  refine lv_aload_n hx hb dX8_meetings_0 rfl (lv_at hl 0 rfl) ?_
  refine lv_iload_n hx hb dX8_meetings_1 rfl (lv_at hl 1 rfl) ?_
  refine lv_iload_n hx hb dX8_meetings_2 rfl (lv_at hl 2 rfl) ?_
  obtain ⟨r3, hc3, hok⟩ := k_bind hok
  refine kCi (wc := (wX8_areTwo cy aN qN aH qH aH vN vH)) (wc2 := (wX8_areTwo cy aN qN aH qH aH vN vH)) (wr := [(qN 2, oX6 vW qW aH0), (qN 1, oX1 vD qD), (qD 0, rI cy 9 vD_now), (qW 1, rI cy 36 vW_who), (qH 14, rI cy 7 vH_kinds), (qW 0, rI cy 7 vW_cells), (qH 8, rI cy 4 vH_sorts), (qH 10, rI cy 36 vH_next), (qW 2, rI cy 7 vW_inFront), (qH 15, rI cy 7 vH_sizes), (qH 11, rI cy 36 vH_width), (qH 12, rI cy 5 vH_doorOne), (qH 13, rI cy 5 vH_doorTwo)]) (ws2 := (wX8_meetings cy aN qN aH qH qW aH0 qD aH aH0 vN vH vW vD vD_now vW_who vH_kinds vW_cells vH_sorts vH_next vW_inFront vH_sizes vH_width vH_doorOne vH_doorTwo)) (kRunV (As := [.int x1, .int x2]) (rest := []) ⟨hx, hb, hml, hown, ht0⟩ (kX8_areTwo l D cy _ aN qN aH qH vN vH x1 x2 r3 hc3 _ rfl) (cwV 2 ht0 (gV wd600 wd601 wd602 wd57 wd603) rfl rfl rfl (by decide +kernel) ⟨Nat.le_of_ble_eq_true rfl, Nat.le_of_ble_eq_true rfl⟩) hK hN hP hD [0, 1] rfl (by decide) 0 7 rfl rfl rfl hl.1 rfl (Nat.le_of_ble_eq_true rfl) dX8_meetings_3 ⟨Nat.zero_le _, Nat.zero_le _⟩) hP hD hS hA [0, 1] [2, 3, 4, 5, 6, 7, 8, 9, 10, 11, 12, 13, 14] rfl rfl (by decide) (by decide) [13, 14, 0, 1, 2, 3, 4, 5, 6, 7, 8, 9, 10, 11, 12] (by decide) rfl rfl (fun H locs hP hD hS => ?_)
  refine lv_if_ne (tgt := 15) hx hb dX8_meetings_6 (by decide) (fun c6 => ?_) (fun c6 => ?_)
  · have hok := k_neg c6 hok
    refine lv_iload_n hx hb dX8_meetings_15 rfl (lv_at hl 3 rfl) ?_
    refine lv_if_lt (tgt := 26) hx hb dX8_meetings_16 (by decide) (fun c16 => ?_) (fun c16 => ?_)
    · have hok := k_pos c16 hok
      exact J26  H locs ls hP hD hS (lv_sub hl [0] rfl) hok
    · have hok := k_neg c16 hok
      refine lv_iload_n hx hb dX8_meetings_19 rfl (lv_at hl 3 rfl) ?_
      refine lv_sipush (v := 200) hx hb dX8_meetings_20 (by decide) ?_
      refine lv_icmp_le (tgt := 32) hx hb dX8_meetings_23 (by decide) (fun c23 => ?_) (fun c23 => ?_)
      · have hok := k_pos c23 hok
        refine lv_iconst (v := 0) hx hb dX8_meetings_32 (by decide) ?_
        refine lv_istore (lv' := [(4, .int 0), (0, .ref aN), (1, .int x1), (2, .int x2), (3, .int x3)]) hx hb dX8_meetings_33 hl (by decide) rfl (fun ls hl => ?_)
        refine lv_aload_n hx hb dX8_meetings_35 rfl (lv_at hl 1 rfl) ?_
        refine va_get (D := D) (ci := 7) (v := .ref (qN 2)) (C := RX8) (T := TX8) (N := 9) hx hb ht0 niX8 hown hK hP 0 rfl rfl 2 (by decide) (ht0 _ wd578) (fun _ h9 => h9) rfl dX8_meetings_36 ?_
        refine lv_aload_n hx hb dX8_meetings_39 rfl (lv_at hl 1 rfl) ?_
        refine va_get (D := D) (ci := 7) (v := .ref aH) (C := RX8) (T := TX8) (N := 9) hx hb ht0 niX8 hown hK hP 0 rfl rfl 5 (by decide) (ht0 _ wd522) (fun _ h9 => h9) rfl dX8_meetings_40 ?_
        refine lv_aload_n hx hb dX8_meetings_43 rfl (lv_at hl 1 rfl) ?_
        refine va_get (D := D) (ci := 7) (v := .ref (qN 1)) (C := RX8) (T := TX8) (N := 9) hx hb ht0 niX8 hown hK hP 0 rfl rfl 1 (by decide) (ht0 _ wd527) (fun _ h9 => h9) rfl dX8_meetings_44 ?_
        refine lv_iconst (v := 0) hx hb dX8_meetings_47 (by decide) ?_
        obtain ⟨⟨vW_48, vW_who_48, vW_cells_48⟩, hc48, hok⟩ := k_bind hok
        try dsimp only at hok
        refine kCv (wc := (wX6_start cy (qN 2) aH (qN 1) qW aH0 qD qH aH0 vW vD vD_now vW_who vH vH_kinds vW_cells vH_sorts)) (wc2 := (wX6_start cy (qN 2) aH (qN 1) qW aH0 qD qH aH vW_48 vD vD_now vW_who_48 vH vH_kinds vW_cells_48 vH_sorts)) (wr := [(aN, oX8 vN qN aH), (qH 10, rI cy 36 vH_next), (qW 2, rI cy 7 vW_inFront), (qH 15, rI cy 7 vH_sizes), (qH 11, rI cy 36 vH_width), (qH 12, rI cy 5 vH_doorOne), (qH 13, rI cy 5 vH_doorTwo)]) (ws2 := (wX8_meetings cy aN qN aH qH qW aH0 qD aH aH vN vH vW_48 vD vD_now vW_who_48 vH_kinds vW_cells_48 vH_sorts vH_next vW_inFront vH_sizes vH_width vH_doorOne vH_doorTwo)) (kRunV (As := [.ref aH, .ref (qN 1), .int 0]) (rest := []) ⟨hx, hb, hml, hown, ht0⟩ (kX6_start l D cy _ (qN 2) aH (qN 1) qW aH0 qD qH vW vD vD_now vW_who vH vH_kinds vW_cells vH_sorts (0 : Int32) vW_48 vW_who_48 vW_cells_48 hc48 _ rfl) (cwV 3 ht0 (gV wd579 wd181 wd182 wd114 wd183) rfl rfl rfl (by decide +kernel) ⟨Nat.le_of_ble_eq_true rfl, Nat.le_of_ble_eq_true rfl⟩) hK hN hP hD [2, 3, 4, 5, 1, 6, 7, 8] rfl (by decide) 2 5 rfl rfl rfl hl.1 rfl (Nat.le_of_ble_eq_true rfl) dX8_meetings_48 ⟨Nat.zero_le _, Nat.zero_le _⟩) hP hD hS hA [2, 3, 4, 5, 1, 6, 7, 8] [0, 9, 10, 11, 12, 13, 14] rfl rfl (by decide) (by decide) [0, 11, 7, 8, 9, 10, 12, 13, 14, 1, 2, 3, 4, 5, 6] (by decide) rfl rfl (fun H locs hP hD hS => ?_)
        refine lv_iconst (v := 1) hx hb dX8_meetings_51 (by decide) ?_
        refine lv_istore (lv' := [(5, .int 1), (4, .int 0), (0, .ref aN), (1, .int x1), (2, .int x2), (3, .int x3)]) hx hb dX8_meetings_52 hl (by decide) rfl (fun ls hl => ?_)
        exact L54 5000 (0 : Int32) (1 : Int32) vW_cells_48 vW_inFront vW_who_48 vW_48 H locs ls hP hD hS (lv_sub hl [2, 3, 4, 5, 1, 0] rfl) hok
      · have hok := k_neg c23 hok
        exact J26  H locs ls hP hD hS (lv_sub hl [0] rfl) hok
  · have hok := k_pos c6 hok
    refine lv_aload_n hx hb dX8_meetings_9 rfl (lv_at hl 0 rfl) ?_
    refine lv_iconst (v := 1) hx hb dX8_meetings_10 (by decide) ?_
    obtain ⟨⟨r11, vN_11⟩, hc11, hok⟩ := k_bind hok
    try dsimp only at hok
    refine kCi (wc := (wX8_refuse cy aN qN aH aH vN)) (wc2 := (wX8_refuse cy aN qN aH aH vN_11)) (wr := [(aH, oX4 vH qH), (qN 2, oX6 vW qW aH0), (qN 1, oX1 vD qD), (qD 0, rI cy 9 vD_now), (qW 1, rI cy 36 vW_who), (qH 14, rI cy 7 vH_kinds), (qW 0, rI cy 7 vW_cells), (qH 8, rI cy 4 vH_sorts), (qH 10, rI cy 36 vH_next), (qW 2, rI cy 7 vW_inFront), (qH 15, rI cy 7 vH_sizes), (qH 11, rI cy 36 vH_width), (qH 12, rI cy 5 vH_doorOne), (qH 13, rI cy 5 vH_doorTwo)]) (ws2 := (wX8_meetings cy aN qN aH qH qW aH0 qD aH aH0 vN_11 vH vW vD vD_now vW_who vH_kinds vW_cells vH_sorts vH_next vW_inFront vH_sizes vH_width vH_doorOne vH_doorTwo)) (kRunV (As := [.int 1]) (rest := []) ⟨hx, hb, hml, hown, ht0⟩ (kX8_refuse l D cy _ aN qN aH vN (1 : Int32) r11 vN_11 hc11 _ rfl) (cwV 1 ht0 (gV wd504 wd505 wd506 wd57 wd507) rfl rfl rfl (by decide +kernel) ⟨Nat.le_of_ble_eq_true rfl, Nat.le_of_ble_eq_true rfl⟩) hK hN hP hD [0] rfl (by decide) 0 7 rfl rfl rfl hl.1 rfl (Nat.le_of_ble_eq_true rfl) dX8_meetings_11 ⟨Nat.zero_le _, Nat.zero_le _⟩) hP hD hS hA [0] [1, 2, 3, 4, 5, 6, 7, 8, 9, 10, 11, 12, 13, 14] rfl rfl (by decide) (by decide) [14, 0, 1, 2, 3, 4, 5, 6, 7, 8, 9, 10, 11, 12, 13] (by decide) rfl rfl (fun H locs hP hD hS => ?_)
    cases hok
    subst hQe; exact W.iret hx hb hr (fun t ht hW => ⟨⟨_, (), rfl, rfl, by rw [ht]; exact hP, va_K.moved hW.alike hK, hD⟩, hS.F ht⟩) hS.2.2 dX8_meetings_14
