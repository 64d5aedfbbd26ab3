def wsX8_damp : List Cond := .code yX8_damp cX8_damp 5 (some .int) :: W0
abbrev wX8_damp (cy : Nat → ClassId) (aN : Nat) (qN : Nat → Nat) (aH : Nat) (qH : Nat → Nat) (qW : Nat → Nat) (aH0 : Nat) (qD : Nat → Nat) (fvN_5 : Nat) (fvW_4 : Nat) (vN : Nat → Int32) (vH : Nat → Int32) (vW : Nat → Int32) (vD : Nat → Int32) (vD_now : Nat → Int32) (vW_who : Nat → Int32) (vH_kinds : Nat → Int32) (vW_cells : Nat → Int32) (vH_sorts : Nat → Int32) (vH_next : Nat → Int32) (vW_inFront : Nat → Int32) (vH_sizes : Nat → Int32) (vH_width : Nat → Int32) : va_W := [(aN, oX8 vN qN fvN_5), (aH, oX4 vH qH), (qN 2, oX6 vW qW fvW_4), (qN 1, oX1 vD qD), (qD 0, rI cy 9 vD_now), (qW 1, rI cy 36 vW_who), (qH 14, rI cy 7 vH_kinds), (qW 0, rI cy 7 vW_cells), (qH 8, rI cy 4 vH_sorts), (qH 10, rI cy 36 vH_next), (qW 2, rI cy 7 vW_inFront), (qH 15, rI cy 7 vH_sizes), (qH 11, rI cy 36 vH_width)]
set_option maxHeartbeats 4000000 in
set_option maxRecDepth 100000 in
theorem kX8_damp (l : Launch) (D : va_G) (cy : Nat → ClassId) (sz : Nat) (aN : Nat) (qN : Nat → Nat) (aH : Nat) (qH : Nat → Nat) (qW : Nat → Nat) (aH0 : Nat) (qD : Nat → Nat) (vN : Nat → Int32) (vH : Nat → Int32) (vW : Nat → Int32) (vD : Nat → Int32) (vD_now : Nat → Int32) (vW_who : Nat → Int32) (vH_kinds : Nat → Int32) (vW_cells : Nat → Int32) (vH_sorts : Nat → Int32) (vH_next : Nat → Int32) (vW_inFront : Nat → Int32) (vH_sizes : Nat → Int32) (vH_width : Nat → Int32) (x1 : Int32) (x2 : Int32) (x3 : Int32) (zr : Int32) (z_vN : Nat → Int32) (z_vW : Nat → Int32) (z_vW_who : Nat → Int32) (z_vW_cells : Nat → Int32) (z_vW_inFront : Nat → Int32) (z_aH0 : Nat) (hok : fX8_damp aH aH0 vN vH vW vD vD_now vW_who vH_kinds vW_cells vH_sorts vH_next vW_inFront vH_sizes vH_width x1 x2 x3 = some (zr, z_vN, z_vW, z_vW_who, z_vW_cells, z_vW_inFront, z_aH0)) (A : Nat → Prop) (hAe : va_A (wX8_damp cy aN qN aH qH qW aH0 qD aH aH0 vN vH vW vD vD_now vW_who vH_kinds vW_cells vH_sorts vH_next vW_inFront vH_sizes vH_width) sz = A) : Met l yX8_damp wsX8_damp ({ frames := 4, cells := 0, slots := 0, locals := 95 } : Room) (kPre D cy [.ref aN, .int x1, .int x2, .int x3] (wX8_damp cy aN qN aH qH qW aH0 qD aH aH0 vN vH vW vD vD_now vW_who vH_kinds vW_cells vH_sorts vH_next vW_inFront vH_sizes vH_width) sz) (kQi D cy zr A (wX8_damp cy aN qN aH qH qW aH0 qD aH z_aH0 z_vN vH z_vW vD vD_now z_vW_who vH_kinds z_vW_cells vH_sorts vH_next z_vW_inFront vH_sizes vH_width)) 0 0 A := by
  refine Met.ofW (cc := cX8_damp) (maxL := 5) (ret := (some .int)) (by decide) rfl ?_
  intro p e s m args below meth c s₁ B hml hv
  obtain ⟨rfl, hsz, hP, hK, hD0, hN⟩ := hv
  have hx := B.exec
  have hb := B.bytes
  have hr := B.returns
  have ht0 : ∀ w ∈ W0, w.before _ s = true := fun w h => atoms_spec (ws := wsX8_damp) B.pre w (List.mem_cons_of_mem _ h)
  have hown : s.vm.findClass RX8 = some m.cls := findClass_of_methodNamed B.named
  have hlocks := B.notSynchronized
  subst hsz
  have hD : va_D A (wX8_damp cy aN qN aH qH qW aH0 qD aH aH0 vN vH vW vD vD_now vW_who vH_kinds vW_cells vH_sorts vH_next vW_inFront vH_sizes vH_width) := by rw [← hAe]; exact hD0.self
  have hA : ∀ q : Nat, s.heap.size ≤ q → A q := fun q h => by rw [← hAe]; exact Or.inr h
  have hS : va_S A s.heap s.heap [] := va_S.rf
  have hl := lv_entry ([.ref aN, .int x1, .int x2, .int x3]) (n := 5) (Nat.le_of_ble_eq_true rfl)
  rw [lg_entry_eq]
  generalize (lg_sl ([.ref aN, .int x1, .int x2, .int x3]) ++ List.replicate (5 - (lg_sl ([.ref aN, .int x1, .int x2, .int x3])).length) Slot.unset).toArray = ls at hl ⊢
  have hl : lv_has ls 5 [(0, .ref aN), (1, .int x1), (2, .int x2), (3, .int x3)] := hl
  generalize hQe : MQ below (kQi D cy zr A (wX8_damp cy aN qN aH qH qW aH0 qD aH z_aH0 z_vN vH z_vW vD vD_now z_vW_who vH_kinds z_vW_cells vH_sorts vH_next z_vW_inFront vH_sizes vH_width)) ([.ref aN, .int x1, .int x2, .int x3] : List Value).toArray s 0 0 A = Q
  have L58 : ∀ (fuel : Nat) (y4_58 : Int32) (vW_cells_58 : Nat → Int32) (vW_inFront_58 : Nat → Int32) (vW_who_58 : Nat → Int32) (vW_58 : Nat → Int32), ∀ (H : Heap) (locs : List Loc) (ls : Array Slot), va_P D vwCl (wX8_damp cy aN qN aH qH qW aH0 qD aH aH vN vH vW_58 vD vD_now vW_who_58 vH_kinds vW_cells_58 vH_sorts vH_next vW_inFront_58 vH_sizes vH_width) H → va_D A (wX8_damp cy aN qN aH qH qW aH0 qD aH aH vN vH vW_58 vD vD_now vW_who_58 vH_kinds vW_cells_58 vH_sorts vH_next vW_inFront_58 vH_sizes vH_width) → va_S A s.heap H locs → lv_has ls 5 [(0, .ref aN), (1, .int x1), (3, .int x3), (4, .int y4_58)] → lp (fX8_damp_B58 aH vN vH vH_kinds vH_next vH_sizes vH_width x1 x3) fuel (y4_58, vW_cells_58, vW_inFront_58, vW_who_58, vW_58) = some (zr, z_vN, z_vW, z_vW_who, z_vW_cells, z_vW_inFront, z_aH0) → W p l e ({ frames := 4, cells := 0, slots := 0, locals := 95 } : Room) s m ([.ref aN, .int x1, .int x2, .int x3] : List Value).toArray below meth c H locs 0 0 Q (F0 m 58 ls []) := by
    intro fuel
    induction fuel with
    | zero => intro y4_58 vW_cells_58 vW_inFront_58 vW_who_58 vW_58 H locs ls hP hD hS hl hok; exact (lp_0 hok).elim
    | succ fuel ih58 =>
      intro y4_58 vW_cells_58 vW_inFront_58 vW_who_58 vW_58 H locs ls hP hD hS hl hok
      obtain ⟨y58, hok, hL58, hR58⟩ := lp_step hok
      unfold fX8_damp_B58 at hok
      try dsimp only at hok
      refine lv_iload hx hb dX8_damp_58 (lv_at hl 3 rfl) ?_
      refine lv_iload_n hx hb dX8_damp_60 rfl (lv_at hl 2 rfl) ?_
      refine lv_icmp_gt (tgt := 77) hx hb dX8_damp_61 (by decide) (fun c61 => ?_) (fun c61 => ?_)
      · have hok := k_pos c61 hok
        obtain ⟨e58, hok, he58⟩ := ex_some hok
        have hok := hok.trans (congrArg some (hL58 _ he58))
        refine lv_aload_n hx hb dX8_damp_77 rfl (lv_at hl 0 rfl) ?_
        refine lv_aload_n hx hb dX8_damp_78 rfl (lv_at hl 0 rfl) ?_
        refine va_get (D := D) (ci := 7) (v := .ref (qN 2)) (C := RX8) (T := TX8) (N := 9) hx hb ht0 niX8 hown hK hP 0 rfl rfl 2 (by decide) (ht0 _ wd578) (fun _ h9 => h9) rfl dX8_damp_79 ?_
        refine lv_iload_n hx hb dX8_damp_82 rfl (lv_at hl 1 rfl) ?_
        obtain ⟨r83, hc83, hok⟩ := k_bind hok
        refine kCi (wc := (wX6_cellOf cy (qN 2) qW aH aH vW_58 vW_cells_58)) (wc2 := (wX6_cellOf cy (qN 2) qW aH aH vW_58 vW_cells_58)) (wr := [(aN, oX8 vN qN aH), (aH, oX4 vH qH), (qN 1, oX1 vD qD), (qD 0, rI cy 9 vD_now), (qW 1, rI cy 36 vW_who_58), (qH 14, rI cy 7 vH_kinds), (qH 8, rI cy 4 vH_sorts), (qH 10, rI cy 36 vH_next), (qW 2, rI cy 7 vW_inFront_58), (qH 15, rI cy 7 vH_sizes), (qH 11, rI cy 36 vH_width)]) (ws2 := (wX8_damp cy aN qN aH qH qW aH0 qD aH aH vN vH vW_58 vD vD_now vW_who_58 vH_kinds vW_cells_58 vH_sorts vH_next vW_inFront_58 vH_sizes vH_width)) (kRunV (As := [.int x1]) (rest := [.ref aN]) ⟨hx, hb, hml, hown, ht0⟩ (kX6_cellOf l D cy _ (qN 2) qW aH vW_58 vW_cells_58 x1 r83 hc83 _ rfl) (cwV 1 ht0 (gV wd594 wd163 wd164 wd114 wd165) rfl rfl rfl (by decide +kernel) ⟨Nat.le_of_ble_eq_true rfl, Nat.le_of_ble_eq_true rfl⟩) hK hN hP hD [2, 7] rfl (by decide) 2 5 rfl rfl rfl hl.1 rfl (Nat.le_of_ble_eq_true rfl) dX8_damp_83 ⟨Nat.zero_le _, Nat.zero_le _⟩) hP hD hS hA [2, 7] [0, 1, 3, 4, 5, 6, 8, 9, 10, 11, 12] rfl rfl (by decide) (by decide) [0, 1, 11, 2, 3, 4, 5, 12, 6, 7, 8, 9, 10] (by decide) rfl rfl (fun H locs hP hD hS => ?_)
        obtain ⟨r86, hc86, hok⟩ := k_bind hok
        refine kCi (wc := (wX8_tenfold cy )) (wc2 := (wX8_tenfold cy )) (wr := [(aN, oX8 vN qN aH), (aH, oX4 vH qH), (qN 2, oX6 vW_58 qW aH), (qN 1, oX1 vD qD), (qD 0, rI cy 9 vD_now), (qW 1, rI cy 36 vW_who_58), (qH 14, rI cy 7 vH_kinds), (qW 0, rI cy 7 vW_cells_58), (qH 8, rI cy 4 vH_sorts), (qH 10, rI cy 36 vH_next), (qW 2, rI cy 7 vW_inFront_58), (qH 15, rI cy 7 vH_sizes), (qH 11, rI cy 36 vH_width)]) (ws2 := (wX8_damp cy aN qN aH qH qW aH0 qD aH aH vN vH vW_58 vD vD_now vW_who_58 vH_kinds vW_cells_58 vH_sorts vH_next vW_inFront_58 vH_sizes vH_width)) (kRunS (As := [.int r83]) (rest := [.ref aN]) ⟨hx, hb, hml, hown, ht0⟩ (kX8_tenfold l D cy _ r83 r86 hc86 _ rfl) (va_cwS 1 ht0 (gS wd595 wd596 wd57 wd597) rfl rfl rfl (by decide +kernel) ⟨Nat.le_of_ble_eq_true rfl, Nat.le_of_ble_eq_true rfl⟩) hK hN hP hD [] rfl (by decide) rfl hl.1 rfl (Nat.le_of_ble_eq_true rfl) dX8_damp_86 ⟨Nat.zero_le _, Nat.zero_le _⟩) hP hD hS hA [] [0, 1, 2, 3, 4, 5, 6, 7, 8, 9, 10, 11, 12] rfl rfl (by decide) (by decide) [0, 1, 2, 3, 4, 5, 6, 7, 8, 9, 10, 11, 12] (by decide) rfl rfl (fun H locs hP hD hS => ?_)
        obtain ⟨⟨r89, vN_89⟩, hc89, hok⟩ := k_bind hok
        try dsimp only at hok
        refine kCi (wc := (wX8_answer cy aN qN aH aH vN)) (wc2 := (wX8_answer cy aN qN aH aH vN_89)) (wr := [(aH, oX4 vH qH), (qN 2, oX6 vW_58 qW aH), (qN 1, oX1 vD qD), (qD 0, rI cy 9 vD_now), (qW 1, rI cy 36 vW_who_58), (qH 14, rI cy 7 vH_kinds), (qW 0, rI cy 7 vW_cells_58), (qH 8, rI cy 4 vH_sorts), (qH 10, rI cy 36 vH_next), (qW 2, rI cy 7 vW_inFront_58), (qH 15, rI cy 7 vH_sizes), (qH 11, rI cy 36 vH_width)]) (ws2 := (wX8_damp cy aN qN aH qH qW aH0 qD aH aH vN_89 vH vW_58 vD vD_now vW_who_58 vH_kinds vW_cells_58 vH_sorts vH_next vW_inFront_58 vH_sizes vH_width)) (kRunV (As := [.int r86]) (rest := []) ⟨hx, hb, hml, hown, ht0⟩ (kX8_answer l D cy _ aN qN aH vN r86 r89 vN_89 hc89 _ rfl) (cwV 1 ht0 (gV wd538 wd539 wd540 wd57 wd541) rfl rfl rfl (by decide +kernel) ⟨Nat.le_of_ble_eq_true rfl, Nat.le_of_ble_eq_true rfl⟩) hK hN hP hD [0] rfl (by decide) 0 7 rfl rfl rfl hl.1 rfl (Nat.le_of_ble_eq_true rfl) dX8_damp_89 ⟨Nat.zero_le _, Nat.zero_le _⟩) hP hD hS hA [0] [1, 2, 3, 4, 5, 6, 7, 8, 9, 10, 11, 12] rfl rfl (by decide) (by decide) [12, 0, 1, 2, 3, 4, 5, 6, 7, 8, 9, 10, 11] (by decide) rfl rfl (fun H locs hP hD hS => ?_)
        cases hok
        subst hQe; exact W.iret hx hb hr (fun t ht hW => ⟨⟨_, (), rfl, rfl, by rw [ht]; exact hP, va_K.moved hW.alike hK, hD⟩, hS.F ht⟩) hS.2.2 dX8_damp_92
      · have hok := k_neg c61 hok
        refine lv_aload_n hx hb dX8_damp_64 rfl (lv_at hl 0 rfl) ?_
        refine va_get (D := D) (ci := 7) (v := .ref (qN 2)) (C := RX8) (T := TX8) (N := 9) hx hb ht0 niX8 hown hK hP 0 rfl rfl 2 (by decide) (ht0 _ wd578) (fun _ h9 => h9) rfl dX8_damp_65 ?_
        obtain ⟨⟨vW_68, vW_cells_68, vW_who_68, vW_inFront_68⟩, hc68, hok⟩ := k_bind hok
        try dsimp only at hok
        refine kCv (wc := (wX6_passDamp cy (qN 2) qW aH qH aH vW_58 vH vW_cells_58 vH_next vW_who_58 vW_inFront_58 vH_sizes vH_width vH_kinds)) (wc2 := (wX6_passDamp cy (qN 2) qW aH qH aH vW_68 vH vW_cells_68 vH_next vW_who_68 vW_inFront_68 vH_sizes vH_width vH_kinds)) (wr := [(aN, oX8 vN qN aH), (qN 1, oX1 vD qD), (qD 0, rI cy 9 vD_now), (qH 8, rI cy 4 vH_sorts)]) (ws2 := (wX8_damp cy aN qN aH qH qW aH0 qD aH aH vN vH vW_68 vD vD_now vW_who_68 vH_kinds vW_cells_68 vH_sorts vH_next vW_inFront_68 vH_sizes vH_width)) (kRunV (As := []) (rest := []) ⟨hx, hb, hml, hown, ht0⟩ (kX6_passDamp l D cy _ (qN 2) qW aH qH vW_58 vH vW_cells_58 vH_next vW_who_58 vW_inFront_58 vH_sizes vH_width vH_kinds vW_68 vW_cells_68 vW_who_68 vW_inFront_68 hc68 _ rfl) (cwV 0 ht0 (gV wd673 wd674 wd675 wd114 wd676) rfl rfl rfl (by decide +kernel) ⟨Nat.le_of_ble_eq_true rfl, Nat.le_of_ble_eq_true rfl⟩) hK hN hP hD [2, 1, 7, 9, 5, 10, 11, 12, 6] rfl (by decide) 2 5 rfl rfl rfl hl.1 rfl (Nat.le_of_ble_eq_true rfl) dX8_damp_68 ⟨Nat.zero_le _, Nat.zero_le _⟩) hP hD hS hA [2, 1, 7, 9, 5, 10, 11, 12, 6] [0, 3, 4, 8] rfl rfl (by decide) (by decide) [0, 5, 4, 1, 2, 8, 12, 6, 3, 7, 9, 10, 11] (by decide) rfl rfl (fun H locs hP hD hS => ?_)
        refine lv_iinc (v := (y4_58 + 1)) (lv' := [(4, .int (y4_58 + 1)), (0, .ref aN), (1, .int x1), (3, .int x3)]) hx hb dX8_damp_71 hl (k := 3) rfl (by first | rfl | decide) (by decide) rfl (fun ls hl => ?_)
        refine lv_goto (tgt := 58) hx hb dX8_damp_74 (by decide) ?_
        exact ih58 (y4_58 + 1) vW_cells_68 vW_inFront_68 vW_who_68 vW_68 H locs ls hP hD hS (lv_sub hl [1, 2, 3, 0] rfl) (hR58 _ (Option.some.inj hok).symm)
  unfold fX8_damp at hok
  obtain ⟨H, hH⟩ : ∃ H, H = s.heap := ⟨_, rfl⟩
  obtain ⟨locs, hlc⟩ : ∃ x : List Loc, x = [] := ⟨_, rfl⟩
  have hP : va_P D vwCl (wX8_damp cy aN qN aH qH qW aH0 qD aH aH0 vN vH vW vD vD_now vW_who vH_kinds vW_cells vH_sorts vH_next vW_inFront vH_sizes vH_width) H := by rw [hH]; exact hP
  have hS : va_S A s.heap H locs := by rw [hH, hlc]; exact hS
  rw [show W p l e _ s m _ below meth c s.heap [] = W p l e _ s m _ below meth c H locs from by rw [hH, hlc]]
  refine lv_aload_n hx hb dX8_damp_0 rfl (lv_at hl 0 rfl) ?_
  refine va_get (D := D) (ci := 7) (v := .ref aH) (C := RX8) (T := TX8) (N := 9) hx hb ht0 niX8 hown hK hP 0 rfl rfl 5 (by decide) (ht0 _ wd522) (fun _ h9 => h9) rfl dX8_damp_1 ?_
  refine lv_iload_n hx hb dX8_damp_4 rfl (lv_at hl 1 rfl) ?_
  obtain ⟨r5, hc5, hok⟩ := k_bind hok
  refine kCi (wc := (wX4_hasThing cy aH qH vH)) (wc2 := (wX4_hasThing cy aH qH vH)) (wr := [(aN, oX8 vN qN aH), (qN 2, oX6 vW qW aH0), (qN 1, oX1 vD qD), (qD 0, rI cy 9 vD_now), (qW 1, rI cy 36 vW_who), (qH 14, rI cy 7 vH_kinds), (qW 0, rI cy 7 vW_cells), (qH 8, rI cy 4 vH_sorts), (qH 10, rI cy 36 vH_next), (qW 2, rI cy 7 vW_inFront), (qH 15, rI cy 7 vH_sizes), (qH 11, rI cy 36 vH_width)]) (ws2 := (wX8_damp cy aN qN aH qH qW aH0 qD aH aH0 vN vH vW vD vD_now vW_who vH_kinds vW_cells vH_sorts vH_next vW_inFront vH_sizes vH_width)) (kRunV (As := [.int x1]) (rest := []) ⟨hx, hb, hml, hown, ht0⟩ (kX4_hasThing l D cy _ aH qH vH x1 r5 hc5 _ rfl) (cwV 1 ht0 (gV wd551 wd552 wd553 wd9 wd554) rfl rfl rfl (by decide +kernel) ⟨Nat.le_of_ble_eq_true rfl, Nat.le_of_ble_eq_true rfl⟩) hK hN hP hD [1] rfl (by decide) 1 3 rfl rfl rfl hl.1 rfl (Nat.le_of_ble_eq_true rfl) dX8_damp_5 ⟨Nat.zero_le _, Nat.zero_le _⟩) hP hD hS hA [1] [0, 2, 3, 4, 5, 6, 7, 8, 9, 10, 11, 12] rfl rfl (by decide) (by decide) [0, 12, 1, 2, 3, 4, 5, 6, 7, 8, 9, 10, 11] (by decide) rfl rfl (fun H locs hP hD hS => ?_)
  refine lv_if_ne (tgt := 17) hx hb dX8_damp_8 (by decide) (fun c8 => ?_) (fun c8 => ?_)
  · have hok := k_neg c8 hok
    refine lv_iload_n hx hb dX8_damp_17 rfl (lv_at hl 2 rfl) ?_
    refine lv_iload_n hx hb dX8_damp_18 rfl (lv_at hl 3 rfl) ?_
    obtain ⟨r19, hc19, hok⟩ := k_bind hok
    refine kCi (wc := (wX8_areDampNumbers cy )) (wc2 := (wX8_areDampNumbers cy )) (wr := [(aN, oX8 vN qN aH), (aH, oX4 vH qH), (qN 2, oX6 vW qW aH0), (qN 1, oX1 vD qD), (qD 0, rI cy 9 vD_now), (qW 1, rI cy 36 vW_who), (qH 14, rI cy 7 vH_kinds), (qW 0, rI cy 7 vW_cells), (qH 8, rI cy 4 vH_sorts), (qH 10, rI cy 36 vH_next), (qW 2, rI cy 7 vW_inFront), (qH 15, rI cy 7 vH_sizes), (qH 11, rI cy 36 vH_width)]) (ws2 := (wX8_damp cy aN qN aH qH qW aH0 qD aH aH0 vN vH vW vD vD_now vW_who vH_kinds vW_cells vH_sorts vH_next vW_inFront vH_sizes vH_width)) (kRunS (As := [.int x2, .int x3]) (rest := []) ⟨hx, hb, hml, hown, ht0⟩ (kX8_areDampNumbers l D cy _ x2 x3 r19 hc19 _ rfl) (va_cwS 2 ht0 (gS wd677 wd678 wd57 wd679) rfl rfl rfl (by decide +kernel) ⟨Nat.le_of_ble_eq_true rfl, Nat.le_of_ble_eq_true rfl⟩) hK hN hP hD [] rfl (by decide) rfl hl.1 rfl (Nat.le_of_ble_eq_true rfl) dX8_damp_19 ⟨Nat.zero_le _, Nat.zero_le _⟩) hP hD hS hA [] [0, 1, 2, 3, 4, 5, 6, 7, 8, 9, 10, 11, 12] rfl rfl (by decide) (by decide) [0, 1, 2, 3, 4, 5, 6, 7, 8, 9, 10, 11, 12] (by decide) rfl rfl (fun H locs hP hD hS => ?_)
    refine lv_if_ne (tgt := 31) hx hb dX8_damp_22 (by decide) (fun c22 => ?_) (fun c22 => ?_)
    · have hok := k_neg c22 hok
      refine lv_aload_n hx hb dX8_damp_31 rfl (lv_at hl 0 rfl) ?_
      refine va_get (D := D) (ci := 7) (v := .ref (qN 2)) (C := RX8) (T := TX8) (N := 9) hx hb ht0 niX8 hown hK hP 0 rfl rfl 2 (by decide) (ht0 _ wd578) (fun _ h9 => h9) rfl dX8_damp_32 ?_
      refine lv_aload_n hx hb dX8_damp_35 rfl (lv_at hl 0 rfl) ?_
      refine va_get (D := D) (ci := 7) (v := .ref aH) (C := RX8) (T := TX8) (N := 9) hx hb ht0 niX8 hown hK hP 0 rfl rfl 5 (by decide) (ht0 _ wd522) (fun _ h9 => h9) rfl dX8_damp_36 ?_
      refine lv_aload_n hx hb dX8_damp_39 rfl (lv_at hl 0 rfl) ?_
      refine va_get (D := D) (ci := 7) (v := .ref (qN 1)) (C := RX8) (T := TX8) (N := 9) hx hb ht0 niX8 hown hK hP 0 rfl rfl 1 (by decide) (ht0 _ wd527) (fun _ h9 => h9) rfl dX8_damp_40 ?_
      refine lv_iconst (v := 0) hx hb dX8_damp_43 (by decide) ?_
      obtain ⟨⟨vW_44, vW_who_44, vW_cells_44⟩, hc44, hok⟩ := k_bind hok
      try dsimp only at hok
      refine kCv (wc := (wX6_start cy (qN 2) aH (qN 1) qW aH0 qD qH aH0 vW vD vD_now vW_who vH vH_kinds vW_cells vH_sorts)) (wc2 := (wX6_start cy (qN 2) aH (qN 1) qW aH0 qD qH aH vW_44 vD vD_now vW_who_44 vH vH_kinds vW_cells_44 vH_sorts)) (wr := [(aN, oX8 vN qN aH), (qH 10, rI cy 36 vH_next), (qW 2, rI cy 7 vW_inFront), (qH 15, rI cy 7 vH_sizes), (qH 11, rI cy 36 vH_width)]) (ws2 := (wX8_damp cy aN qN aH qH qW aH0 qD aH aH vN vH vW_44 vD vD_now vW_who_44 vH_kinds vW_cells_44 vH_sorts vH_next vW_inFront vH_sizes vH_width)) (kRunV (As := [.ref aH, .ref (qN 1), .int 0]) (rest := []) ⟨hx, hb, hml, hown, ht0⟩ (kX6_start l D cy _ (qN 2) aH (qN 1) qW aH0 qD qH vW vD vD_now vW_who vH vH_kinds vW_cells vH_sorts (0 : Int32) vW_44 vW_who_44 vW_cells_44 hc44 _ rfl) (cwV 3 ht0 (gV wd579 wd181 wd182 wd114 wd183) rfl rfl rfl (by decide +kernel) ⟨Nat.le_of_ble_eq_true rfl, Nat.le_of_ble_eq_true rfl⟩) hK hN hP hD [2, 3, 4, 5, 1, 6, 7, 8] rfl (by decide) 2 5 rfl rfl rfl hl.1 rfl (Nat.le_of_ble_eq_true rfl) dX8_damp_44 ⟨Nat.zero_le _, Nat.zero_le _⟩) hP hD hS hA [2, 3, 4, 5, 1, 6, 7, 8] [0, 9, 10, 11, 12] rfl rfl (by decide) (by decide) [0, 9, 5, 6, 7, 8, 10, 11, 12, 1, 2, 3, 4] (by decide) rfl rfl (fun H locs hP hD hS => ?_)
      refine lv_aload_n hx hb dX8_damp_47 rfl (lv_at hl 0 rfl) ?_
      refine va_get (D := D) (ci := 7) (v := .ref (qN 2)) (C := RX8) (T := TX8) (N := 9) hx hb ht0 niX8 hown hK hP 0 rfl rfl 2 (by decide) (ht0 _ wd578) (fun _ h9 => h9) rfl dX8_damp_48 ?_
      refine lv_iload_n hx hb dX8_damp_51 rfl (lv_at hl 2 rfl) ?_
      obtain ⟨vW_52, hc52, hok⟩ := k_bind hok
      refine kCv (wc := (wX6_sow cy (qN 2) qW aH aH vW_44)) (wc2 := (wX6_sow cy (qN 2) qW aH aH vW_52)) (wr := [(aN, oX8 vN qN aH), (aH, oX4 vH qH), (qN 1, oX1 vD qD), (qD 0, rI cy 9 vD_now), (qW 1, rI cy 36 vW_who_44), (qH 14, rI cy 7 vH_kinds), (qW 0, rI cy 7 vW_cells_44), (qH 8, rI cy 4 vH_sorts), (qH 10, rI cy 36 vH_next), (qW 2, rI cy 7 vW_inFront), (qH 15, rI cy 7 vH_sizes), (qH 11, rI cy 36 vH_width)]) (ws2 := (wX8_damp cy aN qN aH qH qW aH0 qD aH aH vN vH vW_52 vD vD_now vW_who_44 vH_kinds vW_cells_44 vH_sorts vH_next vW_inFront vH_sizes vH_width)) (kRunV (As := [.int x2]) (rest := []) ⟨hx, hb, hml, hown, ht0⟩ (kX6_sow l D cy _ (qN 2) qW aH vW_44 x2 vW_52 hc52 _ rfl) (cwV 1 ht0 (gV wd680 wd681 wd682 wd114 wd683) rfl rfl rfl (by decide +kernel) ⟨Nat.le_of_ble_eq_true rfl, Nat.le_of_ble_eq_true rfl⟩) hK hN hP hD [2] rfl (by decide) 2 5 rfl rfl rfl hl.1 rfl (Nat.le_of_ble_eq_true rfl) dX8_damp_52 ⟨Nat.zero_le _, Nat.zero_le _⟩) hP hD hS hA [2] [0, 1, 3, 4, 5, 6, 7, 8, 9, 10, 11, 12] rfl rfl (by decide) (by decide) [0, 1, 12, 2, 3, 4, 5, 6, 7, 8, 9, 10, 11] (by decide) rfl rfl (fun H locs hP hD hS => ?_)
      refine lv_iconst (v := 1) hx hb dX8_damp_55 (by decide) ?_
      refine lv_istore (lv' := [(4, .int 1), (0, .ref aN), (1, .int x1), (2, .int x2), (3, .int x3)]) hx hb dX8_damp_56 hl (by decide) rfl (fun ls hl => ?_)
      exact L58 5000 (1 : Int32) vW_cells_44 vW_inFront vW_who_44 vW_52 H locs ls hP hD hS (lv_sub hl [1, 2, 4, 0] rfl) hok
    · have hok := k_pos c22 hok
      refine lv_aload_n hx hb dX8_damp_25 rfl (lv_at hl 0 rfl) ?_
      refine lv_iconst (v := 2) hx hb dX8_damp_26 (by decide) ?_
      obtain ⟨⟨r27, vN_27⟩, hc27, hok⟩ := k_bind hok
      try dsimp only at hok
      refine kCi (wc := (wX8_refuse cy aN qN aH aH vN)) (wc2 := (wX8_refuse cy aN qN aH aH vN_27)) (wr := [(aH, oX4 vH qH), (qN 2, oX6 vW qW aH0), (qN 1, oX1 vD qD), (qD 0, rI cy 9 vD_now), (qW 1, rI cy 36 vW_who), (qH 14, rI cy 7 vH_kinds), (qW 0, rI cy 7 vW_cells), (qH 8, rI cy 4 vH_sorts), (qH 10, rI cy 36 vH_next), (qW 2, rI cy 7 vW_inFront), (qH 15, rI cy 7 vH_sizes), (qH 11, rI cy 36 vH_width)]) (ws2 := (wX8_damp cy aN qN aH qH qW aH0 qD aH aH0 vN_27 vH vW vD vD_now vW_who vH_kinds vW_cells vH_sorts vH_next vW_inFront vH_sizes vH_width)) (kRunV (As := [.int 2]) (rest := []) ⟨hx, hb, hml, hown, ht0⟩ (kX8_refuse l D cy _ aN qN aH vN (2 : Int32) r27 vN_27 hc27 _ rfl) (cwV 1 ht0 (gV wd504 wd505 wd506 wd57 wd507) rfl rfl rfl (by decide +kernel) ⟨Nat.le_of_ble_eq_true rfl, Nat.le_of_ble_eq_true rfl⟩) hK hN hP hD [0] rfl (by decide) 0 7 rfl rfl rfl hl.1 rfl (Nat.le_of_ble_eq_true rfl) dX8_damp_27 ⟨Nat.zero_le _, Nat.zero_le _⟩) hP hD hS hA [0] [1, 2, 3, 4, 5, 6, 7, 8, 9, 10, 11, 12] rfl rfl (by decide) (by decide) [12, 0, 1, 2, 3, 4, 5, 6, 7, 8, 9, 10, 11] (by decide) rfl rfl (fun H locs hP hD hS => ?_)
      cases hok
      subst hQe; exact W.iret hx hb hr (fun t ht hW => ⟨⟨_, (), rfl, rfl, by rw [ht]; exact hP, va_K.moved hW.alike hK, hD⟩, hS.F ht⟩) hS.2.2 dX8_damp_30
  · have hok := k_pos c8 hok
    refine lv_aload_n hx hb dX8_damp_11 rfl (lv_at hl 0 rfl) ?_
    refine lv_iconst (v := 1) hx hb dX8_damp_12 (by decide) ?_
    obtain ⟨⟨r13, vN_13⟩, hc13, hok⟩ := k_bind hok
    try dsimp only at hok
    refine kCi (wc := (wX8_refuse cy aN qN aH aH vN)) (wc2 := (wX8_refuse cy aN qN aH aH vN_13)) (wr := [(aH, oX4 vH qH), (qN 2, oX6 vW qW aH0), (qN 1, oX1 vD qD), (qD 0, rI cy 9 vD_now), (qW 1, rI cy 36 vW_who), (qH 14, rI cy 7 vH_kinds), (qW 0, rI cy 7 vW_cells), (qH 8, rI cy 4 vH_sorts), (qH 10, rI cy 36 vH_next), (qW 2, rI cy 7 vW_inFront), (qH 15, rI cy 7 vH_sizes), (qH 11, rI cy 36 vH_width)]) (ws2 := (wX8_damp cy aN qN aH qH qW aH0 qD aH aH0 vN_13 vH vW vD vD_now vW_who vH_kinds vW_cells vH_sorts vH_next vW_inFront vH_sizes vH_width)) (kRunV (As := [.int 1]) (rest := []) ⟨hx, hb, hml, hown, ht0⟩ (kX8_refuse l D cy _ aN qN aH vN (1 : Int32) r13 vN_13 hc13 _ rfl) (cwV 1 ht0 (gV wd504 wd505 wd506 wd57 wd507) rfl rfl rfl (by decide +kernel) ⟨Nat.le_of_ble_eq_true rfl, Nat.le_of_ble_eq_true rfl⟩) hK hN hP hD [0] rfl (by decide) 0 7 rfl rfl rfl hl.1 rfl (Nat.le_of_ble_eq_true rfl) dX8_damp_13 ⟨Nat.zero_le _, Nat.zero_le _⟩) hP hD hS hA [0] [1, 2, 3, 4, 5, 6, 7, 8, 9, 10, 11, 12] rfl rfl (by decide) (by decide) [12, 0, 1, 2, 3, 4, 5, 6, 7, 8, 9, 10, 11] (by decide) rfl rfl (fun H locs hP hD hS => ?_)
    cases hok
    subst hQe; exact W.iret hx hb hr (fun t ht hW => ⟨⟨_, (), rfl, rfl, by rw [ht]; exact hP, va_K.moved hW.alike hK, hD⟩, hS.F ht⟩) hS.2.2 dX8_damp_16
def wsX8_dampSteps : List Cond := .code yX8_dampSteps cX8_dampSteps 5 (some .int) :: W0
abbrev wX8_dampSteps (cy : Nat → ClassId) (aN : Nat) (qN : Nat → Nat) (aH : Nat) (qH : Nat → Nat) (qW : Nat → Nat) (aH0 : Nat) (qD : Nat → Nat) (fvN_5 : Nat) (fvW_4 : Nat) (vN : Nat → Int32) (vH : Nat → Int32) (vW : Nat → Int32) (vD : Nat → Int32) (vD_now : Nat → Int32) (vW_who : Nat → Int32) (vH_kinds : Nat → Int32) (vW_cells : Nat → Int32) (vH_sorts : Nat → Int32) (vH_next : Nat → Int32) (vW_inFront : Nat → Int32) (vH_sizes : Nat → Int32) (vH_width : Nat → Int32) : va_W := [(aN, oX8 vN qN fvN_5), (aH, oX4 vH qH), (qN 2, oX6 vW qW fvW_4), (qN 1, oX1 vD qD), (qD 0, rI cy 9 vD_now), (qW 1, rI cy 36 vW_who), (qH 14, rI cy 7 vH_kinds), (qW 0, rI cy 7 vW_cells), (qH 8, rI cy 4 vH_sorts), (qH 10, rI cy 36 vH_next), (qW 2, rI cy 7 vW_inFront), (qH 15, rI cy 7 vH_sizes), (qH 11, rI cy 36 vH_width)]
set_option maxHeartbeats 4000000 in
set_option maxRecDepth 100000 in
theorem kX8_dampSteps (l : Launch) (D : va_G) (cy : Nat → ClassId) (sz : Nat) (aN : Nat) (qN : Nat → Nat) (aH : Nat) (qH : Nat → Nat) (qW : Nat → Nat) (aH0 : Nat) (qD : Nat → Nat) (vN : Nat → Int32) (vH : Nat → Int32) (vW : Nat → Int32) (vD : Nat → Int32) (vD_now : Nat → Int32) (vW_who : Nat → Int32) (vH_kinds : Nat → Int32) (vW_cells : Nat → Int32) (vH_sorts : Nat → Int32) (vH_next : Nat → Int32) (vW_inFront : Nat → Int32) (vH_sizes : Nat → Int32) (vH_width : Nat → Int32) (x1 : Int32) (x2 : Int32) (zr : Int32) (z_vN : Nat → Int32) (z_vW : Nat → Int32) (z_vW_who : Nat → Int32) (z_vW_cells : Nat → Int32) (z_vW_inFront : Nat → Int32) (z_aH0 : Nat) (hok : fX8_dampSteps aH aH0 vN vH vW vD vD_now vW_who vH_kinds vW_cells vH_sorts vH_next vW_inFront vH_sizes vH_width x1 x2 = some (zr, z_vN, z_vW, z_vW_who, z_vW_cells, z_vW_inFront, z_aH0)) (A : Nat → Prop) (hAe : va_A (wX8_dampSteps cy aN qN aH qH qW aH0 qD aH aH0 vN vH vW vD vD_now vW_who vH_kinds vW_cells vH_sorts vH_next vW_inFront vH_sizes vH_width) sz = A) : Met l yX8_dampSteps wsX8_dampSteps ({ frames := 4, cells := 0, slots := 0, locals := 95 } : Room) (kPre D cy [.ref aN, .int x1, .int x2] (wX8_dampSteps cy aN qN aH qH qW aH0 qD aH aH0 vN vH vW vD vD_now vW_who vH_kinds vW_cells vH_sorts vH_next vW_inFront vH_sizes vH_width) sz) (kQi D cy zr A (wX8_dampSteps cy aN qN aH qH qW aH0 qD aH z_aH0 z_vN vH z_vW vD vD_now z_vW_who vH_kinds z_vW_cells vH_sorts vH_next z_vW_inFront vH_sizes vH_width)) 0 0 A := by
  refine Met.ofW (cc := cX8_dampSteps) (maxL := 5) (ret := (some .int)) (by decide) rfl ?_
  intro p e s m args below meth c s₁ B hml hv
  obtain ⟨rfl, hsz, hP, hK, hD0, hN⟩ := hv
  have hx := B.exec
  have hb := B.bytes
  have hr := B.returns
  have ht0 : ∀ w ∈ W0, w.before _ s = true := fun w h => atoms_spec (ws := wsX8_dampSteps) B.pre w (List.mem_cons_of_mem _ h)
  have hown : s.vm.findClass RX8 = some m.cls := findClass_of_methodNamed B.named
  have hlocks := B.notSynchronized
  subst hsz
  have hD : va_D A (wX8_dampSteps cy aN qN aH qH qW aH0 qD aH aH0 vN vH vW vD vD_now vW_who vH_kinds vW_cells vH_sorts vH_next vW_inFront vH_sizes vH_width) := by rw [← hAe]; exact hD0.self
  have hA : ∀ q : Nat, s.heap.size ≤ q → A q := fun q h => by rw [← hAe]; exact Or.inr h
  have hS : va_S A s.heap s.heap [] := va_S.rf
  have hl := lv_entry ([.ref aN, .int x1, .int x2]) (n := 5) (Nat.le_of_ble_eq_true rfl)
  rw [lg_entry_eq]
  generalize (lg_sl ([.ref aN, .int x1, .int x2]) ++ List.replicate (5 - (lg_sl ([.ref aN, .int x1, .int x2])).length) Slot.unset).toArray = ls at hl ⊢
  have hl : lv_has ls 5 [(0, .ref aN), (1, .int x1), (2, .int x2)] := hl
  generalize hQe : MQ below (kQi D cy zr A (wX8_dampSteps cy aN qN aH qH qW aH0 qD aH z_aH0 z_vN vH z_vW vD vD_now z_vW_who vH_kinds z_vW_cells vH_sorts vH_next z_vW_inFront vH_sizes vH_width)) ([.ref aN, .int x1, .int x2] : List Value).toArray s 0 0 A = Q
  have L59 : ∀ (fuel : Nat) (y3_59 : Int32) (y4_59 : Int32) (vW_cells_59 : Nat → Int32) (vW_inFront_59 : Nat → Int32) (vW_who_59 : Nat → Int32) (vW_59 : Nat → Int32), ∀ (H : Heap) (locs : List Loc) (ls : Array Slot), va_P D vwCl (wX8_dampSteps cy aN qN aH qH qW aH0 qD aH aH vN vH vW_59 vD vD_now vW_who_59 vH_kinds vW_cells_59 vH_sorts vH_next vW_inFront_59 vH_sizes vH_width) H → va_D A (wX8_dampSteps cy aN qN aH qH qW aH0 qD aH aH vN vH vW_59 vD vD_now vW_who_59 vH_kinds vW_cells_59 vH_sorts vH_next vW_inFront_59 vH_sizes vH_width) → va_S A s.heap H locs → lv_has ls 5 [(0, .ref aN), (2, .int x2), (3, .int y3_59), (4, .int y4_59)] → lp (fX8_dampSteps_B59 aH vN vH vH_kinds vH_next vH_sizes vH_width x2) fuel (y3_59, y4_59, vW_cells_59, vW_inFront_59, vW_who_59, vW_59) = some (zr, z_vN, z_vW, z_vW_who, z_vW_cells, z_vW_inFront, z_aH0) → W p l e ({ frames := 4, cells := 0, slots := 0, locals := 95 } : Room) s m ([.ref aN, .int x1, .int x2] : List Value).toArray below meth c H locs 0 0 Q (F0 m 59 ls []) := by
    intro fuel
    induction fuel with
    | zero => intro y3_59 y4_59 vW_cells_59 vW_inFront_59 vW_who_59 vW_59 H locs ls hP hD hS hl hok; exact (lp_0 hok).elim
    | succ fuel ih59 =>
      intro y3_59 y4_59 vW_cells_59 vW_inFront_59 vW_who_59 vW_59 H locs ls hP hD hS hl hok
      obtain ⟨y59, hok, hL59, hR59⟩ := lp_step hok
      unfold fX8_dampSteps_B59 at hok
      try dsimp only at hok
      refine lv_iload hx hb dX8_dampSteps_59 (lv_at hl 3 rfl) ?_
      refine lv_iload_n hx hb dX8_dampSteps_61 rfl (lv_at hl 1 rfl) ?_
      refine lv_icmp_gt (tgt := 91) hx hb dX8_dampSteps_62 (by decide) (fun c62 => ?_) (fun c62 => ?_)
      · have hok := k_pos c62 hok
        obtain ⟨e59, hok, he59⟩ := ex_some hok
        have hok := hok.trans (congrArg some (hL59 _ he59))
        refine lv_aload_n hx hb dX8_dampSteps_91 rfl (lv_at hl 0 rfl) ?_
        refine lv_iload_n hx hb dX8_dampSteps_92 rfl (lv_at hl 2 rfl) ?_
        obtain ⟨⟨r93, vN_93⟩, hc93, hok⟩ := k_bind hok
        try dsimp only at hok
        refine kCi (wc := (wX8_answer cy aN qN aH aH vN)) (wc2 := (wX8_answer cy aN qN aH aH vN_93)) (wr := [(aH, oX4 vH qH), (qN 2, oX6 vW_59 qW aH), (qN 1, oX1 vD qD), (qD 0, rI cy 9 vD_now), (qW 1, rI cy 36 vW_who_59), (qH 14, rI cy 7 vH_kinds), (qW 0, rI cy 7 vW_cells_59), (qH 8, rI cy 4 vH_sorts), (qH 10, rI cy 36 vH_next), (qW 2, rI cy 7 vW_inFront_59), (qH 15, rI cy 7 vH_sizes), (qH 11, rI cy 36 vH_width)]) (ws2 := (wX8_dampSteps cy aN qN aH qH qW aH0 qD aH aH vN_93 vH vW_59 vD vD_now vW_who_59 vH_kinds vW_cells_59 vH_sorts vH_next vW_inFront_59 vH_sizes vH_width)) (kRunV (As := [.int y3_59]) (rest := []) ⟨hx, hb, hml, hown, ht0⟩ (kX8_answer l D cy _ aN qN aH vN y3_59 r93 vN_93 hc93 _ rfl) (cwV 1 ht0 (gV wd538 wd539 wd540 wd57 wd541) rfl rfl rfl (by decide +kernel) ⟨Nat.le_of_ble_eq_true rfl, Nat.le_of_ble_eq_true rfl⟩) hK hN hP hD [0] rfl (by decide) 0 7 rfl rfl rfl hl.1 rfl (Nat.le_of_ble_eq_true rfl) dX8_dampSteps_93 ⟨Nat.zero_le _, Nat.zero_le _⟩) hP hD hS hA [0] [1, 2, 3, 4, 5, 6, 7, 8, 9, 10, 11, 12] rfl rfl (by decide) (by decide) [12, 0, 1, 2, 3, 4, 5, 6, 7, 8, 9, 10, 11] (by decide) rfl rfl (fun H locs hP hD hS => ?_)
        cases hok
        subst hQe; exact W.iret hx hb hr (fun t ht hW => ⟨⟨_, (), rfl, rfl, by rw [ht]; exact hP, va_K.moved hW.alike hK, hD⟩, hS.F ht⟩) hS.2.2 dX8_dampSteps_96
      · have hok := k_neg c62 hok
        refine lv_aload_n hx hb dX8_dampSteps_65 rfl (lv_at hl 0 rfl) ?_
        refine va_get (D := D) (ci := 7) (v := .ref (qN 2)) (C := RX8) (T := TX8) (N := 9) hx hb ht0 niX8 hown hK hP 0 rfl rfl 2 (by decide) (ht0 _ wd578) (fun _ h9 => h9) rfl dX8_dampSteps_66 ?_
        obtain ⟨⟨vW_69, vW_cells_69, vW_who_69, vW_inFront_69⟩, hc69, hok⟩ := k_bind hok
        try dsimp only at hok
        refine kCv (wc := (wX6_passDamp cy (qN 2) qW aH qH aH vW_59 vH vW_cells_59 vH_next vW_who_59 vW_inFront_59 vH_sizes vH_width vH_kinds)) (wc2 := (wX6_passDamp cy (qN 2) qW aH qH aH vW_69 vH vW_cells_69 vH_next vW_who_69 vW_inFront_69 vH_sizes vH_width vH_kinds)) (wr := [(aN, oX8 vN qN aH), (qN 1, oX1 vD qD), (qD 0, rI cy 9 vD_now), (qH 8, rI cy 4 vH_sorts)]) (ws2 := (wX8_dampSteps cy aN qN aH qH qW aH0 qD aH aH vN vH vW_69 vD vD_now vW_who_69 vH_kinds vW_cells_69 vH_sorts vH_next vW_inFront_69 vH_sizes vH_width)) (kRunV (As := []) (rest := []) ⟨hx, hb, hml, hown, ht0⟩ (kX6_passDamp l D cy _ (qN 2) qW aH qH vW_59 vH vW_cells_59 vH_next vW_who_59 vW_inFront_59 vH_sizes vH_width vH_kinds vW_69 vW_cells_69 vW_who_69 vW_inFront_69 hc69 _ rfl) (cwV 0 ht0 (gV wd673 wd674 wd675 wd114 wd676) rfl rfl rfl (by decide +kernel) ⟨Nat.le_of_ble_eq_true rfl, Nat.le_of_ble_eq_true rfl⟩) hK hN hP hD [2, 1, 7, 9, 5, 10, 11, 12, 6] rfl (by decide) 2 5 rfl rfl rfl hl.1 rfl (Nat.le_of_ble_eq_true rfl) dX8_dampSteps_69 ⟨Nat.zero_le _, Nat.zero_le _⟩) hP hD hS hA [2, 1, 7, 9, 5, 10, 11, 12, 6] [0, 3, 4, 8] rfl rfl (by decide) (by decide) [0, 5, 4, 1, 2, 8, 12, 6, 3, 7, 9, 10, 11] (by decide) rfl rfl (fun H locs hP hD hS => ?_)
        refine lv_iload_n hx hb dX8_dampSteps_72 rfl (lv_at hl 2 rfl) ?_
        refine lv_aload_n hx hb dX8_dampSteps_73 rfl (lv_at hl 0 rfl) ?_
        refine va_get (D := D) (ci := 7) (v := .ref (qN 2)) (C := RX8) (T := TX8) (N := 9) hx hb ht0 niX8 hown hK hP 0 rfl rfl 2 (by decide) (ht0 _ wd578) (fun _ h9 => h9) rfl dX8_dampSteps_74 ?_
        obtain ⟨r77, hc77, hok⟩ := k_bind hok
        refine kCi (wc := (wX6_went cy (qN 2) qW aH aH vW_69)) (wc2 := (wX6_went cy (qN 2) qW aH aH vW_69)) (wr := [(aN, oX8 vN qN aH), (aH, oX4 vH qH), (qN 1, oX1 vD qD), (qD 0, rI cy 9 vD_now), (qW 1, rI cy 36 vW_who_69), (qH 14, rI cy 7 vH_kinds), (qW 0, rI cy 7 vW_cells_69), (qH 8, rI cy 4 vH_sorts), (qH 10, rI cy 36 vH_next), (qW 2, rI cy 7 vW_inFront_69), (qH 15, rI cy 7 vH_sizes), (qH 11, rI cy 36 vH_width)]) (ws2 := (wX8_dampSteps cy aN qN aH qH qW aH0 qD aH aH vN vH vW_69 vD vD_now vW_who_69 vH_kinds vW_cells_69 vH_sorts vH_next vW_inFront_69 vH_sizes vH_width)) (kRunV (As := []) (rest := [.int y3_59]) ⟨hx, hb, hml, hown, ht0⟩ (kX6_went l D cy _ (qN 2) qW aH vW_69 r77 hc77 _ rfl) (cwV 0 ht0 (gV wd581 wd582 wd583 wd114 wd584) rfl rfl rfl (by decide +kernel) ⟨Nat.le_of_ble_eq_true rfl, Nat.le_of_ble_eq_true rfl⟩) hK hN hP hD [2] rfl (by decide) 2 5 rfl rfl rfl hl.1 rfl (Nat.le_of_ble_eq_true rfl) dX8_dampSteps_77 ⟨Nat.zero_le _, Nat.zero_le _⟩) hP hD hS hA [2] [0, 1, 3, 4, 5, 6, 7, 8, 9, 10, 11, 12] rfl rfl (by decide) (by decide) [0, 1, 12, 2, 3, 4, 5, 6, 7, 8, 9, 10, 11] (by decide) rfl rfl (fun H locs hP hD hS => ?_)
        obtain ⟨r80, hc80, hok⟩ := k_bind hok
        refine kCi (wc := (wJ6_bitCount_0f7a4 cy )) (wc2 := (wJ6_bitCount_0f7a4 cy )) (wr := [(aN, oX8 vN qN aH), (aH, oX4 vH qH), (qN 2, oX6 vW_69 qW aH), (qN 1, oX1 vD qD), (qD 0, rI cy 9 vD_now), (qW 1, rI cy 36 vW_who_69), (qH 14, rI cy 7 vH_kinds), (qW 0, rI cy 7 vW_cells_69), (qH 8, rI cy 4 vH_sorts), (qH 10, rI cy 36 vH_next), (qW 2, rI cy 7 vW_inFront_69), (qH 15, rI cy 7 vH_sizes), (qH 11, rI cy 36 vH_width)]) (ws2 := (wX8_dampSteps cy aN qN aH qH qW aH0 qD aH aH vN vH vW_69 vD vD_now vW_who_69 vH_kinds vW_cells_69 vH_sorts vH_next vW_inFront_69 vH_sizes vH_width)) (kRunS (As := [.int r77]) (rest := [.int y3_59]) ⟨hx, hb, hml, hown, ht0⟩ (kJ6_bitCount_0f7a4 l D cy _ r77 r80 hc80 _ rfl) (va_cwS 1 ht0 (gS wd550 wd89 wd90 wd91) rfl rfl rfl (by decide +kernel) ⟨Nat.le_of_ble_eq_true rfl, Nat.le_of_ble_eq_true rfl⟩) hK hN hP hD [] rfl (by decide) rfl hl.1 rfl (Nat.le_of_ble_eq_true rfl) dX8_dampSteps_80 ⟨Nat.zero_le _, Nat.zero_le _⟩) hP hD hS hA [] [0, 1, 2, 3, 4, 5, 6, 7, 8, 9, 10, 11, 12] rfl rfl (by decide) (by decide) [0, 1, 2, 3, 4, 5, 6, 7, 8, 9, 10, 11, 12] (by decide) rfl rfl (fun H locs hP hD hS => ?_)
        refine lv_iadd hx hb dX8_dampSteps_83 ?_
        refine lv_istore_n (lv' := [(3, .int (y3_59 + r80)), (0, .ref aN), (2, .int x2), (4, .int y4_59)]) hx hb dX8_dampSteps_84 rfl hl (by decide) rfl (fun ls hl => ?_)
        refine lv_iinc (v := (y4_59 + 1)) (lv' := [(4, .int (y4_59 + 1)), (3, .int (y3_59 + r80)), (0, .ref aN), (2, .int x2)]) hx hb dX8_dampSteps_85 hl (k := 3) rfl (by first | rfl | decide) (by decide) rfl (fun ls hl => ?_)
        refine lv_goto (tgt := 59) hx hb dX8_dampSteps_88 (by decide) ?_
        exact ih59 (y3_59 + r80) (y4_59 + 1) vW_cells_69 vW_inFront_69 vW_who_69 vW_69 H locs ls hP hD hS (lv_sub hl [2, 3, 1, 0] rfl) (hR59 _ (Option.some.inj hok).symm)
  unfold fX8_dampSteps at hok
  obtain ⟨H, hH⟩ : ∃ H, H = s.heap := ⟨_, rfl⟩
  obtain ⟨locs, hlc⟩ : ∃ x : List Loc, x = [] := ⟨_, rfl⟩
  have hP : va_P D vwCl (wX8_dampSteps cy aN qN aH qH qW aH0 qD aH aH0 vN vH vW vD vD_now vW_who vH_kinds vW_cells vH_sorts vH_next vW_inFront vH_sizes vH_width) H := by rw [hH]; exact hP
  have hS : va_S A s.heap H locs := by rw [hH, hlc]; exact hS
  rw [show W p l e _ s m _ below meth c s.heap [] = W p l e _ s m _ below meth c H locs from by rw [hH, hlc]]
  refine lv_aload_n hx hb dX8_dampSteps_0 rfl (lv_at hl 0 rfl) ?_
  refine va_get (D := D) (ci := 7) (v := .ref aH) (C := RX8) (T := TX8) (N := 9) hx hb ht0 niX8 hown hK hP 0 rfl rfl 5 (by decide) (ht0 _ wd522) (fun _ h9 => h9) rfl dX8_dampSteps_1 ?_
  obtain ⟨r4, hc4, hok⟩ := k_bind hok
  refine kCi (wc := (wX4_stands cy aH qH vH)) (wc2 := (wX4_stands cy aH qH vH)) (wr := [(aN, oX8 vN qN aH), (qN 2, oX6 vW qW aH0), (qN 1, oX1 vD qD), (qD 0, rI cy 9 vD_now), (qW 1, rI cy 36 vW_who), (qH 14, rI cy 7 vH_kinds), (qW 0, rI cy 7 vW_cells), (qH 8, rI cy 4 vH_sorts), (qH 10, rI cy 36 vH_next), (qW 2, rI cy 7 vW_inFront), (qH 15, rI cy 7 vH_sizes), (qH 11, rI cy 36 vH_width)]) (ws2 := (wX8_dampSteps cy aN qN aH qH qW aH0 qD aH aH0 vN vH vW vD vD_now vW_who vH_kinds vW_cells vH_sorts vH_next vW_inFront vH_sizes vH_width)) (kRunV (As := []) (rest := []) ⟨hx, hb, hml, hown, ht0⟩ (kX4_stands l D cy _ aH qH vH r4 hc4 _ rfl) (cwV 0 ht0 (gV wd577 wd462 wd463 wd9 wd464) rfl rfl rfl (by decide +kernel) ⟨Nat.le_of_ble_eq_true rfl, Nat.le_of_ble_eq_true rfl⟩) hK hN hP hD [1] rfl (by decide) 1 3 rfl rfl rfl hl.1 rfl (Nat.le_of_ble_eq_true rfl) dX8_dampSteps_4 ⟨Nat.zero_le _, Nat.zero_le _⟩) hP hD hS hA [1] [0, 2, 3, 4, 5, 6, 7, 8, 9, 10, 11, 12] rfl rfl (by decide) (by decide) [0, 12, 1, 2, 3, 4, 5, 6, 7, 8, 9, 10, 11] (by decide) rfl rfl (fun H locs hP hD hS => ?_)
  refine lv_if_ne (tgt := 16) hx hb dX8_dampSteps_7 (by decide) (fun c7 => ?_) (fun c7 => ?_)
  · have hok := k_neg c7 hok
    refine lv_iload_n hx hb dX8_dampSteps_16 rfl (lv_at hl 1 rfl) ?_
    refine lv_iload_n hx hb dX8_dampSteps_17 rfl (lv_at hl 2 rfl) ?_
    obtain ⟨r18, hc18, hok⟩ := k_bind hok
    refine kCi (wc := (wX8_areDampNumbers cy )) (wc2 := (wX8_areDampNumbers cy )) (wr := [(aN, oX8 vN qN aH), (aH, oX4 vH qH), (qN 2, oX6 vW qW aH0), (qN 1, oX1 vD qD), (qD 0, rI cy 9 vD_now), (qW 1, rI cy 36 vW_who), (qH 14, rI cy 7 vH_kinds), (qW 0, rI cy 7 vW_cells), (qH 8, rI cy 4 vH_sorts), (qH 10, rI cy 36 vH_next), (qW 2, rI cy 7 vW_inFront), (qH 15, rI cy 7 vH_sizes), (qH 11, rI cy 36 vH_width)]) (ws2 := (wX8_dampSteps cy aN qN aH qH qW aH0 qD aH aH0 vN vH vW vD vD_now vW_who vH_kinds vW_cells vH_sorts vH_next vW_inFront vH_sizes vH_width)) (kRunS (As := [.int x1, .int x2]) (rest := []) ⟨hx, hb, hml, hown, ht0⟩ (kX8_areDampNumbers l D cy _ x1 x2 r18 hc18 _ rfl) (va_cwS 2 ht0 (gS wd677 wd678 wd57 wd679) rfl rfl rfl (by decide +kernel) ⟨Nat.le_of_ble_eq_true rfl, Nat.le_of_ble_eq_true rfl⟩) hK hN hP hD [] rfl (by decide) rfl hl.1 rfl (Nat.le_of_ble_eq_true rfl) dX8_dampSteps_18 ⟨Nat.zero_le _, Nat.zero_le _⟩) hP hD hS hA [] [0, 1, 2, 3, 4, 5, 6, 7, 8, 9, 10, 11, 12] rfl rfl (by decide) (by decide) [0, 1, 2, 3, 4, 5, 6, 7, 8, 9, 10, 11, 12] (by decide) rfl rfl (fun H locs hP hD hS => ?_)
    refine lv_if_ne (tgt := 30) hx hb dX8_dampSteps_21 (by decide) (fun c21 => ?_) (fun c21 => ?_)
    · have hok := k_neg c21 hok
      refine lv_iconst (v := 0) hx hb dX8_dampSteps_30 (by decide) ?_
      refine lv_istore_n (lv' := [(3, .int 0), (0, .ref aN), (1, .int x1), (2, .int x2)]) hx hb dX8_dampSteps_31 rfl hl (by decide) rfl (fun ls hl => ?_)
      refine lv_aload_n hx hb dX8_dampSteps_32 rfl (lv_at hl 1 rfl) ?_
      refine va_get (D := D) (ci := 7) (v := .ref (qN 2)) (C := RX8) (T := TX8) (N := 9) hx hb ht0 niX8 hown hK hP 0 rfl rfl 2 (by decide) (ht0 _ wd578) (fun _ h9 => h9) rfl dX8_dampSteps_33 ?_
      refine lv_aload_n hx hb dX8_dampSteps_36 rfl (lv_at hl 1 rfl) ?_
      refine va_get (D := D) (ci := 7) (v := .ref aH) (C := RX8) (T := TX8) (N := 9) hx hb ht0 niX8 hown hK hP 0 rfl rfl 5 (by decide) (ht0 _ wd522) (fun _ h9 => h9) rfl dX8_dampSteps_37 ?_
      refine lv_aload_n hx hb dX8_dampSteps_40 rfl (lv_at hl 1 rfl) ?_
      refine va_get (D := D) (ci := 7) (v := .ref (qN 1)) (C := RX8) (T := TX8) (N := 9) hx hb ht0 niX8 hown hK hP 0 rfl rfl 1 (by decide) (ht0 _ wd527) (fun _ h9 => h9) rfl dX8_dampSteps_41 ?_
      refine lv_iconst (v := 0) hx hb dX8_dampSteps_44 (by decide) ?_
      obtain ⟨⟨vW_45, vW_who_45, vW_cells_45⟩, hc45, hok⟩ := k_bind hok
      try dsimp only at hok
      refine kCv (wc := (wX6_start cy (qN 2) aH (qN 1) qW aH0 qD qH aH0 vW vD vD_now vW_who vH vH_kinds vW_cells vH_sorts)) (wc2 := (wX6_start cy (qN 2) aH (qN 1) qW aH0 qD qH aH vW_45 vD vD_now vW_who_45 vH vH_kinds vW_cells_45 vH_sorts)) (wr := [(aN, oX8 vN qN aH), (qH 10, rI cy 36 vH_next), (qW 2, rI cy 7 vW_inFront), (qH 15, rI cy 7 vH_sizes), (qH 11, rI cy 36 vH_width)]) (ws2 := (wX8_dampSteps cy aN qN aH qH qW aH0 qD aH aH vN vH vW_45 vD vD_now vW_who_45 vH_kinds vW_cells_45 vH_sorts vH_next vW_inFront vH_sizes vH_width)) (kRunV (As := [.ref aH, .ref (qN 1), .int 0]) (rest := []) ⟨hx, hb, hml, hown, ht0⟩ (kX6_start l D cy _ (qN 2) aH (qN 1) qW aH0 qD qH vW vD vD_now vW_who vH vH_kinds vW_cells vH_sorts (0 : Int32) vW_45 vW_who_45 vW_cells_45 hc45 _ rfl) (cwV 3 ht0 (gV wd579 wd181 wd182 wd114 wd183) rfl rfl rfl (by decide +kernel) ⟨Nat.le_of_ble_eq_true rfl, Nat.le_of_ble_eq_true rfl⟩) hK hN hP hD [2, 3, 4, 5, 1, 6, 7, 8] rfl (by decide) 2 5 rfl rfl rfl hl.1 rfl (Nat.le_of_ble_eq_true rfl) dX8_dampSteps_45 ⟨Nat.zero_le _, Nat.zero_le _⟩) hP hD hS hA [2, 3, 4, 5, 1, 6, 7, 8] [0, 9, 10, 11, 12] rfl rfl (by decide) (by decide) [0, 9, 5, 6, 7, 8, 10, 11, 12, 1, 2, 3, 4] (by decide) rfl rfl (fun H locs hP hD hS => ?_)
      refine lv_aload_n hx hb dX8_dampSteps_48 rfl (lv_at hl 1 rfl) ?_
      refine va_get (D := D) (ci := 7) (v := .ref (qN 2)) (C := RX8) (T := TX8) (N := 9) hx hb ht0 niX8 hown hK hP 0 rfl rfl 2 (by decide) (ht0 _ wd578) (fun _ h9 => h9) rfl dX8_dampSteps_49 ?_
      refine lv_iload_n hx hb dX8_dampSteps_52 rfl (lv_at hl 2 rfl) ?_
      obtain ⟨vW_53, hc53, hok⟩ := k_bind hok
      refine kCv (wc := (wX6_sow cy (qN 2) qW aH aH vW_45)) (wc2 := (wX6_sow cy (qN 2) qW aH aH vW_53)) (wr := [(aN, oX8 vN qN aH), (aH, oX4 vH qH), (qN 1, oX1 vD qD), (qD 0, rI cy 9 vD_now), (qW 1, rI cy 36 vW_who_45), (qH 14, rI cy 7 vH_kinds), (qW 0, rI cy 7 vW_cells_45), (qH 8, rI cy 4 vH_sorts), (qH 10, rI cy 36 vH_next), (qW 2, rI cy 7 vW_inFront), (qH 15, rI cy 7 vH_sizes), (qH 11, rI cy 36 vH_width)]) (ws2 := (wX8_dampSteps cy aN qN aH qH qW aH0 qD aH aH vN vH vW_53 vD vD_now vW_who_45 vH_kinds vW_cells_45 vH_sorts vH_next vW_inFront vH_sizes vH_width)) (kRunV (As := [.int x1]) (rest := []) ⟨hx, hb, hml, hown, ht0⟩ (kX6_sow l D cy _ (qN 2) qW aH vW_45 x1 vW_53 hc53 _ rfl) (cwV 1 ht0 (gV wd680 wd681 wd682 wd114 wd683) rfl rfl rfl (by decide +kernel) ⟨Nat.le_of_ble_eq_true rfl, Nat.le_of_ble_eq_true rfl⟩) hK hN hP hD [2] rfl (by decide) 2 5 rfl rfl rfl hl.1 rfl (Nat.le_of_ble_eq_true rfl) dX8_dampSteps_53 ⟨Nat.zero_le _, Nat.zero_le _⟩) hP hD hS hA [2] [0, 1, 3, 4, 5, 6, 7, 8, 9, 10, 11, 12] rfl rfl (by decide) (by decide) [0, 1, 12, 2, 3, 4, 5, 6, 7, 8, 9, 10, 11] (by decide) rfl rfl (fun H locs hP hD hS => ?_)
      refine lv_iconst (v := 1) hx hb dX8_dampSteps_56 (by decide) ?_
      refine lv_istore (lv' := [(4, .int 1), (3, .int 0), (0, .ref aN), (1, .int x1), (2, .int x2)]) hx hb dX8_dampSteps_57 hl (by decide) rfl (fun ls hl => ?_)
      exact L59 5000 (0 : Int32) (1 : Int32) vW_cells_45 vW_inFront vW_who_45 vW_53 H locs ls hP hD hS (lv_sub hl [2, 4, 1, 0] rfl) hok
    · have hok := k_pos c21 hok
      refine lv_aload_n hx hb dX8_dampSteps_24 rfl (lv_at hl 0 rfl) ?_
      refine lv_iconst (v := 2) hx hb dX8_dampSteps_25 (by decide) ?_
      obtain ⟨⟨r26, vN_26⟩, hc26, hok⟩ := k_bind hok
      try dsimp only at hok
      refine kCi (wc := (wX8_refuse cy aN qN aH aH vN)) (wc2 := (wX8_refuse cy aN qN aH aH vN_26)) (wr := [(aH, oX4 vH qH), (qN 2, oX6 vW qW aH0), (qN 1, oX1 vD qD), (qD 0, rI cy 9 vD_now), (qW 1, rI cy 36 vW_who), (qH 14, rI cy 7 vH_kinds), (qW 0, rI cy 7 vW_cells), (qH 8, rI cy 4 vH_sorts), (qH 10, rI cy 36 vH_next), (qW 2, rI cy 7 vW_inFront), (qH 15, rI cy 7 vH_sizes), (qH 11, rI cy 36 vH_width)]) (ws2 := (wX8_dampSteps cy aN qN aH qH qW aH0 qD aH aH0 vN_26 vH vW vD vD_now vW_who vH_kinds vW_cells vH_sorts vH_next vW_inFront vH_sizes vH_width)) (kRunV (As := [.int 2]) (rest := []) ⟨hx, hb, hml, hown, ht0⟩ (kX8_refuse l D cy _ aN qN aH vN (2 : Int32) r26 vN_26 hc26 _ rfl) (cwV 1 ht0 (gV wd504 wd505 wd506 wd57 wd507) rfl rfl rfl (by decide +kernel) ⟨Nat.le_of_ble_eq_true rfl, Nat.le_of_ble_eq_true rfl⟩) hK hN hP hD [0] rfl (by decide) 0 7 rfl rfl rfl hl.1 rfl (Nat.le_of_ble_eq_true rfl) dX8_dampSteps_26 ⟨Nat.zero_le _, Nat.zero_le _⟩) hP hD hS hA [0] [1, 2, 3, 4, 5, 6, 7, 8, 9, 10, 11, 12] rfl rfl (by decide) (by decide) [12, 0, 1, 2, 3, 4, 5, 6, 7, 8, 9, 10, 11] (by decide) rfl rfl (fun H locs hP hD hS => ?_)
      cases hok
      subst hQe; exact W.iret hx hb hr (fun t ht hW => ⟨⟨_, (), rfl, rfl, by rw [ht]; exact hP, va_K.moved hW.alike hK, hD⟩, hS.F ht⟩) hS.2.2 dX8_dampSteps_29
  · have hok := k_pos c7 hok
    refine lv_aload_n hx hb dX8_dampSteps_10 rfl (lv_at hl 0 rfl) ?_
    refine lv_iconst (v := 1) hx hb dX8_dampSteps_11 (by decide) ?_
    obtain ⟨⟨r12, vN_12⟩, hc12, hok⟩ := k_bind hok
    try dsimp only at hok
    refine kCi (wc := (wX8_refuse cy aN qN aH aH vN)) (wc2 := (wX8_refuse cy aN qN aH aH vN_12)) (wr := [(aH, oX4 vH qH), (qN 2, oX6 vW qW aH0), (qN 1, oX1 vD qD), (qD 0, rI cy 9 vD_now), (qW 1, rI cy 36 vW_who), (qH 14, rI cy 7 vH_kinds), (qW 0, rI cy 7 vW_cells), (qH 8, rI cy 4 vH_sorts), (qH 10, rI cy 36 vH_next), (qW 2, rI cy 7 vW_inFront), (qH 15, rI cy 7 vH_sizes), (qH 11, rI cy 36 vH_width)]) (ws2 := (wX8_dampSteps cy aN qN aH qH qW aH0 qD aH aH0 vN_12 vH vW vD vD_now vW_who vH_kinds vW_cells vH_sorts vH_next vW_inFront vH_sizes vH_width)) (kRunV (As := [.int 1]) (rest := []) ⟨hx, hb, hml, hown, ht0⟩ (kX8_refuse l D cy _ aN qN aH vN (1 : Int32) r12 vN_12 hc12 _ rfl) (cwV 1 ht0 (gV wd504 wd505 wd506 wd57 wd507) rfl rfl rfl (by decide +kernel) ⟨Nat.le_of_ble_eq_true rfl, Nat.le_of_ble_eq_true rfl⟩) hK hN hP hD [0] rfl (by decide) 0 7 rfl rfl rfl hl.1 rfl (Nat.le_of_ble_eq_true rfl) dX8_dampSteps_12 ⟨Nat.zero_le _, Nat.zero_le _⟩) hP hD hS hA [0] [1, 2, 3, 4, 5, 6, 7, 8, 9, 10, 11, 12] rfl rfl (by decide) (by decide) [12, 0, 1, 2, 3, 4, 5, 6, 7, 8, 9, 10, 11] (by decide) rfl rfl (fun H locs hP hD hS => ?_)
    cases hok
    subst hQe; exact W.iret hx hb hr (fun t ht hW => ⟨⟨_, (), rfl, rfl, by rw [ht]; exact hP, va_K.moved hW.alike hK, hD⟩, hS.F ht⟩) hS.2.2 dX8_dampSteps_15
def wsX8_dampWhen : List Cond := .code yX8_dampWhen cX8_dampWhen 7 (some .int) :: W0
abbrev wX8_dampWhen (cy : Nat → ClassId) (aN : Nat) (qN : Nat → Nat) (aH : Nat) (qH : Nat → Nat) (qD : Nat → Nat) (qW : Nat → Nat) (aH0 : Nat) (fvN_5 : Nat) (fvW_4 : Nat) (vN : Nat → Int32) (vH : Nat → Int32) (vD : Nat → Int32) (vD_now : Nat → Int32) (vH_places : Nat → Int32) (vW : Nat → Int32) (vW_who : Nat → Int32) (vH_kinds : Nat → Int32) (vW_cells : Nat → Int32) (vH_sorts : Nat → Int32) (vH_next : Nat → Int32) (vW_inFront : Nat → Int32) (vH_sizes : Nat → Int32) (vH_width : Nat → Int32) : va_W := [(aN, oX8 vN qN fvN_5), (aH, oX4 vH qH), (qN 1, oX1 vD qD), (qD 0, rI cy 9 vD_now), (qH 9, rI cy 4 vH_places), (qN 2, oX6 vW qW fvW_4), (qW 1, rI cy 36 vW_who), (qH 14, rI cy 7 vH_kinds), (qW 0, rI cy 7 vW_cells), (qH 8, rI cy 4 vH_sorts), (qH 10, rI cy 36 vH_next), (qW 2, rI cy 7 vW_inFront), (qH 15, rI cy 7 vH_sizes), (qH 11, rI cy 36 vH_width)]
set_option maxHeartbeats 4000000 in
set_option maxRecDepth 100000 in
theorem kX8_dampWhen (l : Launch) (D : va_G) (cy : Nat → ClassId) (sz : Nat) (aN : Nat) (qN : Nat → Nat) (aH : Nat) (qH : Nat → Nat) (qD : Nat → Nat) (qW : Nat → Nat) (aH0 : Nat) (vN : Nat → Int32) (vH : Nat → Int32) (vD : Nat → Int32) (vD_now : Nat → Int32) (vH_places : Nat → Int32) (vW : Nat → Int32) (vW_who : Nat → Int32) (vH_kinds : Nat → Int32) (vW_cells : Nat → Int32) (vH_sorts : Nat → Int32) (vH_next : Nat → Int32) (vW_inFront : Nat → Int32) (vH_sizes : Nat → Int32) (vH_width : Nat → Int32) (x1 : Int32) (x2 : Int32) (x3 : Int32) (x4 : Int32) (zr : Int32) (z_vN : Nat → Int32) (z_vW : Nat → Int32) (z_vW_who : Nat → Int32) (z_vW_cells : Nat → Int32) (z_vW_inFront : Nat → Int32) (z_aH0 : Nat) (hok : fX8_dampWhen aH aH0 vN vH vD vD_now vH_places vW vW_who vH_kinds vW_cells vH_sorts vH_next vW_inFront vH_sizes vH_width x1 x2 x3 x4 = some (zr, z_vN, z_vW, z_vW_who, z_vW_cells, z_vW_inFront, z_aH0)) (A : Nat → Prop) (hAe : va_A (wX8_dampWhen cy aN qN aH qH qD qW aH0 aH aH0 vN vH vD vD_now vH_places vW vW_who vH_kinds vW_cells vH_sorts vH_next vW_inFront vH_sizes vH_width) sz = A) : Met l yX8_dampWhen wsX8_dampWhen ({ frames := 4, cells := 0, slots := 0, locals := 95 } : Room) (kPre D cy [.ref aN, .int x1, .int x2, .int x3, .int x4] (wX8_dampWhen cy aN qN aH qH qD qW aH0 aH aH0 vN vH vD vD_now vH_places vW vW_who vH_kinds vW_cells vH_sorts vH_next vW_inFront vH_sizes vH_width) sz) (kQi D cy zr A (wX8_dampWhen cy aN qN aH qH qD qW aH0 aH z_aH0 z_vN vH vD vD_now vH_places z_vW z_vW_who vH_kinds z_vW_cells vH_sorts vH_next z_vW_inFront vH_sizes vH_width)) 0 0 A := by
  refine Met.ofW (cc := cX8_dampWhen) (maxL := 7) (ret := (some .int)) (by decide) rfl ?_
  intro p e s m args below meth c s₁ B hml hv
  obtain ⟨rfl, hsz, hP, hK, hD0, hN⟩ := hv
  have hx := B.exec
  have hb := B.bytes
  have hr := B.returns
  have ht0 : ∀ w ∈ W0, w.before _ s = true := fun w h => atoms_spec (ws := wsX8_dampWhen) B.pre w (List.mem_cons_of_mem _ h)
  have hown : s.vm.findClass RX8 = some m.cls := findClass_of_methodNamed B.named
  have hlocks := B.notSynchronized
  subst hsz
  have hD : va_D A (wX8_dampWhen cy aN qN aH qH qD qW aH0 aH aH0 vN vH vD vD_now vH_places vW vW_who vH_kinds vW_cells vH_sorts vH_next vW_inFront vH_sizes vH_width) := by rw [← hAe]; exact hD0.self
  have hA : ∀ q : Nat, s.heap.size ≤ q → A q := fun q h => by rw [← hAe]; exact Or.inr h
  have hS : va_S A s.heap s.heap [] := va_S.rf
  have hl := lv_entry ([.ref aN, .int x1, .int x2, .int x3, .int x4]) (n := 7) (Nat.le_of_ble_eq_true rfl)
  rw [lg_entry_eq]
  generalize (lg_sl ([.ref aN, .int x1, .int x2, .int x3, .int x4]) ++ List.replicate (7 - (lg_sl ([.ref aN, .int x1, .int x2, .int x3, .int x4])).length) Slot.unset).toArray = ls at hl ⊢
  have hl : lv_has ls 7 [(0, .ref aN), (1, .int x1), (2, .int x2), (3, .int x3), (4, .int x4)] := hl
  generalize hQe : MQ below (kQi D cy zr A (wX8_dampWhen cy aN qN aH qH qD qW aH0 aH z_aH0 z_vN vH vD vD_now vH_places z_vW z_vW_who vH_kinds z_vW_cells vH_sorts vH_next z_vW_inFront vH_sizes vH_width)) ([.ref aN, .int x1, .int x2, .int x3, .int x4] : List Value).toArray s 0 0 A = Q
  have L91 : ∀ (fuel : Nat) (y5_91 : Int32) (y6_91 : Int32) (vW_cells_91 : Nat → Int32) (vW_inFront_91 : Nat → Int32) (vW_who_91 : Nat → Int32) (vW_91 : Nat → Int32), ∀ (H : Heap) (locs : List Loc) (ls : Array Slot), va_P D vwCl (wX8_dampWhen cy aN qN aH qH qD qW aH0 aH aH vN vH vD vD_now vH_places vW_91 vW_who_91 vH_kinds vW_cells_91 vH_sorts vH_next vW_inFront_91 vH_sizes vH_width) H → va_D A (wX8_dampWhen cy aN qN aH qH qD qW aH0 aH aH vN vH vD vD_now vH_places vW_91 vW_who_91 vH_kinds vW_cells_91 vH_sorts vH_next vW_inFront_91 vH_sizes vH_width) → va_S A s.heap H locs → lv_has ls 7 [(0, .ref aN), (1, .int x1), (2, .int x2), (4, .int x4), (5, .int y5_91), (6, .int y6_91)] → lp (fX8_dampWhen_B91 aH vN vH vH_kinds vH_next vH_sizes vH_width x1 x2 x4) fuel (y5_91, y6_91, vW_cells_91, vW_inFront_91, vW_who_91, vW_91) = some (zr, z_vN, z_vW, z_vW_who, z_vW_cells, z_vW_inFront, z_aH0) → W p l e ({ frames := 4, cells := 0, slots := 0, locals := 95 } : Room) s m ([.ref aN, .int x1, .int x2, .int x3, .int x4] : List Value).toArray below meth c H locs 0 0 Q (F0 m 91 ls []) := by
    intro fuel
    induction fuel with
    | zero => intro y5_91 y6_91 vW_cells_91 vW_inFront_91 vW_who_91 vW_91 H locs ls hP hD hS hl hok; exact (lp_0 hok).elim
    | succ fuel ih91 =>
      intro y5_91 y6_91 vW_cells_91 vW_inFront_91 vW_who_91 vW_91 H locs ls hP hD hS hl hok
      obtain ⟨y91, hok, hL91, hR91⟩ := lp_step hok
      unfold fX8_dampWhen_B91 at hok
      try dsimp only at hok
      refine lv_iload hx hb dX8_dampWhen_91 (lv_at hl 5 rfl) ?_
      refine lv_iload hx hb dX8_dampWhen_93 (lv_at hl 3 rfl) ?_
      refine lv_icmp_gt (tgt := 135) hx hb dX8_dampWhen_95 (by decide) (fun c95 => ?_) (fun c95 => ?_)
      · have hok := k_pos c95 hok
        obtain ⟨e91, hok, he91⟩ := ex_some hok
        have hok := hok.trans (congrArg some (hL91 _ he91))
        refine lv_aload_n hx hb dX8_dampWhen_135 rfl (lv_at hl 0 rfl) ?_
        refine lv_iconst (v := 0) hx hb dX8_dampWhen_136 (by decide) ?_
        obtain ⟨⟨r137, vN_137⟩, hc137, hok⟩ := k_bind hok
        try dsimp only at hok
        refine kCi (wc := (wX8_answer cy aN qN aH aH vN)) (wc2 := (wX8_answer cy aN qN aH aH vN_137)) (wr := [(aH, oX4 vH qH), (qN 1, oX1 vD qD), (qD 0, rI cy 9 vD_now), (qH 9, rI cy 4 vH_places), (qN 2, oX6 vW_91 qW aH), (qW 1, rI cy 36 vW_who_91), (qH 14, rI cy 7 vH_kinds), (qW 0, rI cy 7 vW_cells_91), (qH 8, rI cy 4 vH_sorts), (qH 10, rI cy 36 vH_next), (qW 2, rI cy 7 vW_inFront_91), (qH 15, rI cy 7 vH_sizes), (qH 11, rI cy 36 vH_width)]) (ws2 := (wX8_dampWhen cy aN qN aH qH qD qW aH0 aH aH vN_137 vH vD vD_now vH_places vW_91 vW_who_91 vH_kinds vW_cells_91 vH_sorts vH_next vW_inFront_91 vH_sizes vH_width)) (kRunV (As := [.int 0]) (rest := []) ⟨hx, hb, hml, hown, ht0⟩ (kX8_answer l D cy _ aN qN aH vN (0 : Int32) r137 vN_137 hc137 _ rfl) (cwV 1 ht0 (gV wd538 wd539 wd540 wd57 wd541) rfl rfl rfl (by decide +kernel) ⟨Nat.le_of_ble_eq_true rfl, Nat.le_of_ble_eq_true rfl⟩) hK hN hP hD [0] rfl (by decide) 0 7 rfl rfl rfl hl.1 rfl (Nat.le_of_ble_eq_true rfl) dX8_dampWhen_137 ⟨Nat.zero_le _, Nat.zero_le _⟩) hP hD hS hA [0] [1, 2, 3, 4, 5, 6, 7, 8, 9, 10, 11, 12, 13] rfl rfl (by decide) (by decide) [13, 0, 1, 2, 3, 4, 5, 6, 7, 8, 9, 10, 11, 12] (by decide) rfl rfl (fun H locs hP hD hS => ?_)
        cases hok
        subst hQe; exact W.iret hx hb hr (fun t ht hW => ⟨⟨_, (), rfl, rfl, by rw [ht]; exact hP, va_K.moved hW.alike hK, hD⟩, hS.F ht⟩) hS.2.2 dX8_dampWhen_140
      · have hok := k_neg c95 hok
        refine lv_aload_n hx hb dX8_dampWhen_98 rfl (lv_at hl 0 rfl) ?_
        refine va_get (D := D) (ci := 7) (v := .ref (qN 2)) (C := RX8) (T := TX8) (N := 9) hx hb ht0 niX8 hown hK hP 0 rfl rfl 2 (by decide) (ht0 _ wd578) (fun _ h9 => h9) rfl dX8_dampWhen_99 ?_
        obtain ⟨⟨vW_102, vW_cells_102, vW_who_102, vW_inFront_102⟩, hc102, hok⟩ := k_bind hok
        try dsimp only at hok
        refine kCv (wc := (wX6_passDamp cy (qN 2) qW aH qH aH vW_91 vH vW_cells_91 vH_next vW_who_91 vW_inFront_91 vH_sizes vH_width vH_kinds)) (wc2 := (wX6_passDamp cy (qN 2) qW aH qH aH vW_102 vH vW_cells_102 vH_next vW_who_102 vW_inFront_102 vH_sizes vH_width vH_kinds)) (wr := [(aN, oX8 vN qN aH), (qN 1, oX1 vD qD), (qD 0, rI cy 9 vD_now), (qH 9, rI cy 4 vH_places), (qH 8, rI cy 4 vH_sorts)]) (ws2 := (wX8_dampWhen cy aN qN aH qH qD qW aH0 aH aH vN vH vD vD_now vH_places vW_102 vW_who_102 vH_kinds vW_cells_102 vH_sorts vH_next vW_inFront_102 vH_sizes vH_width)) (kRunV (As := []) (rest := []) ⟨hx, hb, hml, hown, ht0⟩ (kX6_passDamp l D cy _ (qN 2) qW aH qH vW_91 vH vW_cells_91 vH_next vW_who_91 vW_inFront_91 vH_sizes vH_width vH_kinds vW_102 vW_cells_102 vW_who_102 vW_inFront_102 hc102 _ rfl) (cwV 0 ht0 (gV wd673 wd674 wd675 wd114 wd676) rfl rfl rfl (by decide +kernel) ⟨Nat.le_of_ble_eq_true rfl, Nat.le_of_ble_eq_true rfl⟩) hK hN hP hD [5, 1, 8, 10, 6, 11, 12, 13, 7] rfl (by decide) 5 5 rfl rfl rfl hl.1 rfl (Nat.le_of_ble_eq_true rfl) dX8_dampWhen_102 ⟨Nat.zero_le _, Nat.zero_le _⟩) hP hD hS hA [5, 1, 8, 10, 6, 11, 12, 13, 7] [0, 2, 3, 4, 9] rfl rfl (by decide) (by decide) [0, 6, 1, 2, 3, 5, 9, 13, 7, 4, 8, 10, 11, 12] (by decide) rfl rfl (fun H locs hP hD hS => ?_)
        refine lv_aload_n hx hb dX8_dampWhen_105 rfl (lv_at hl 0 rfl) ?_
        refine va_get (D := D) (ci := 7) (v := .ref (qN 2)) (C := RX8) (T := TX8) (N := 9) hx hb ht0 niX8 hown hK hP 0 rfl rfl 2 (by decide) (ht0 _ wd578) (fun _ h9 => h9) rfl dX8_dampWhen_106 ?_
        refine lv_iload_n hx hb dX8_dampWhen_109 rfl (lv_at hl 1 rfl) ?_
        obtain ⟨r110, hc110, hok⟩ := k_bind hok
        refine kCi (wc := (wX6_cellOf cy (qN 2) qW aH aH vW_102 vW_cells_102)) (wc2 := (wX6_cellOf cy (qN 2) qW aH aH vW_102 vW_cells_102)) (wr := [(aN, oX8 vN qN aH), (aH, oX4 vH qH), (qN 1, oX1 vD qD), (qD 0, rI cy 9 vD_now), (qH 9, rI cy 4 vH_places), (qW 1, rI cy 36 vW_who_102), (qH 14, rI cy 7 vH_kinds), (qH 8, rI cy 4 vH_sorts), (qH 10, rI cy 36 vH_next), (qW 2, rI cy 7 vW_inFront_102), (qH 15, rI cy 7 vH_sizes), (qH 11, rI cy 36 vH_width)]) (ws2 := (wX8_dampWhen cy aN qN aH qH qD qW aH0 aH aH vN vH vD vD_now vH_places vW_102 vW_who_102 vH_kinds vW_cells_102 vH_sorts vH_next vW_inFront_102 vH_sizes vH_width)) (kRunV (As := [.int x1]) (rest := []) ⟨hx, hb, hml, hown, ht0⟩ (kX6_cellOf l D cy _ (qN 2) qW aH vW_102 vW_cells_102 x1 r110 hc110 _ rfl) (cwV 1 ht0 (gV wd594 wd163 wd164 wd114 wd165) rfl rfl rfl (by decide +kernel) ⟨Nat.le_of_ble_eq_true rfl, Nat.le_of_ble_eq_true rfl⟩) hK hN hP hD [5, 8] rfl (by decide) 5 5 rfl rfl rfl hl.1 rfl (Nat.le_of_ble_eq_true rfl) dX8_dampWhen_110 ⟨Nat.zero_le _, Nat.zero_le _⟩) hP hD hS hA [5, 8] [0, 1, 2, 3, 4, 6, 7, 9, 10, 11, 12, 13] rfl rfl (by decide) (by decide) [0, 1, 2, 3, 4, 12, 5, 6, 13, 7, 8, 9, 10, 11] (by decide) rfl rfl (fun H locs hP hD hS => ?_)
        refine lv_iload hx hb dX8_dampWhen_113 (lv_at hl 4 rfl) ?_
        refine lv_iload_n hx hb dX8_dampWhen_115 rfl (lv_at hl 2 rfl) ?_
        obtain ⟨r116, hc116, hok⟩ := k_bind hok
        refine kCi (wc := (wX8_cellAt cy )) (wc2 := (wX8_cellAt cy )) (wr := [(aN, oX8 vN qN aH), (aH, oX4 vH qH), (qN 1, oX1 vD qD), (qD 0, rI cy 9 vD_now), (qH 9, rI cy 4 vH_places), (qN 2, oX6 vW_102 qW aH), (qW 1, rI cy 36 vW_who_102), (qH 14, rI cy 7 vH_kinds), (qW 0, rI cy 7 vW_cells_102), (qH 8, rI cy 4 vH_sorts), (qH 10, rI cy 36 vH_next), (qW 2, rI cy 7 vW_inFront_102), (qH 15, rI cy 7 vH_sizes), (qH 11, rI cy 36 vH_width)]) (ws2 := (wX8_dampWhen cy aN qN aH qH qD qW aH0 aH aH vN vH vD vD_now vH_places vW_102 vW_who_102 vH_kinds vW_cells_102 vH_sorts vH_next vW_inFront_102 vH_sizes vH_width)) (kRunS (As := [.int y5_91, .int x2]) (rest := [.int r110]) ⟨hx, hb, hml, hown, ht0⟩ (kX8_cellAt l D cy _ y5_91 x2 r116 hc116 _ rfl) (va_cwS 2 ht0 (gS wd570 wd261 wd57 wd260) rfl rfl rfl (by decide +kernel) ⟨Nat.le_of_ble_eq_true rfl, Nat.le_of_ble_eq_true rfl⟩) hK hN hP hD [] rfl (by decide) rfl hl.1 rfl (Nat.le_of_ble_eq_true rfl) dX8_dampWhen_116 ⟨Nat.zero_le _, Nat.zero_le _⟩) hP hD hS hA [] [0, 1, 2, 3, 4, 5, 6, 7, 8, 9, 10, 11, 12, 13] rfl rfl (by decide) (by decide) [0, 1, 2, 3, 4, 5, 6, 7, 8, 9, 10, 11, 12, 13] (by decide) rfl rfl (fun H locs hP hD hS => ?_)
        refine lv_icmp_ne (tgt := 129) hx hb dX8_dampWhen_119 (by decide) (fun c119 => ?_) (fun c119 => ?_)
        · have hok := k_neg c119 hok
          refine lv_iinc (v := (y6_91 + 1)) (lv' := [(6, .int (y6_91 + 1)), (0, .ref aN), (1, .int x1), (2, .int x2), (4, .int x4), (5, .int y5_91)]) hx hb dX8_dampWhen_129 hl (k := 5) rfl (by first | rfl | decide) (by decide) rfl (fun ls hl => ?_)
          refine lv_goto (tgt := 91) hx hb dX8_dampWhen_132 (by decide) ?_
          exact ih91 y5_91 (y6_91 + 1) vW_cells_102 vW_inFront_102 vW_who_102 vW_102 H locs ls hP hD hS (lv_sub hl [1, 2, 3, 4, 5, 0] rfl) (hR91 _ (Option.some.inj hok).symm)
        · have hok := k_pos c119 hok
          obtain ⟨e91, hok, he91⟩ := ex_some hok
          have hok := hok.trans (congrArg some (hL91 _ he91))
          refine lv_aload_n hx hb dX8_dampWhen_122 rfl (lv_at hl 0 rfl) ?_
          refine lv_iload hx hb dX8_dampWhen_123 (lv_at hl 5 rfl) ?_
          obtain ⟨⟨r125, vN_125⟩, hc125, hok⟩ := k_bind hok
          try dsimp only at hok
          refine kCi (wc := (wX8_answer cy aN qN aH aH vN)) (wc2 := (wX8_answer cy aN qN aH aH vN_125)) (wr := [(aH, oX4 vH qH), (qN 1, oX1 vD qD), (qD 0, rI cy 9 vD_now), (qH 9, rI cy 4 vH_places), (qN 2, oX6 vW_102 qW aH), (qW 1, rI cy 36 vW_who_102), (qH 14, rI cy 7 vH_kinds), (qW 0, rI cy 7 vW_cells_102), (qH 8, rI cy 4 vH_sorts), (qH 10, rI cy 36 vH_next), (qW 2, rI cy 7 vW_inFront_102), (qH 15, rI cy 7 vH_sizes), (qH 11, rI cy 36 vH_width)]) (ws2 := (wX8_dampWhen cy aN qN aH qH qD qW aH0 aH aH vN_125 vH vD vD_now vH_places vW_102 vW_who_102 vH_kinds vW_cells_102 vH_sorts vH_next vW_inFront_102 vH_sizes vH_width)) (kRunV (As := [.int y6_91]) (rest := []) ⟨hx, hb, hml, hown, ht0⟩ (kX8_answer l D cy _ aN qN aH vN y6_91 r125 vN_125 hc125 _ rfl) (cwV 1 ht0 (gV wd538 wd539 wd540 wd57 wd541) rfl rfl rfl (by decide +kernel) ⟨Nat.le_of_ble_eq_true rfl, Nat.le_of_ble_eq_true rfl⟩) hK hN hP hD [0] rfl (by decide) 0 7 rfl rfl rfl hl.1 rfl (Nat.le_of_ble_eq_true rfl) dX8_dampWhen_125 ⟨Nat.zero_le _, Nat.zero_le _⟩) hP hD hS hA [0] [1, 2, 3, 4, 5, 6, 7, 8, 9, 10, 11, 12, 13] rfl rfl (by decide) (by decide) [13, 0, 1, 2, 3, 4, 5, 6, 7, 8, 9, 10, 11, 12] (by decide) rfl rfl (fun H locs hP hD hS => ?_)
          cases hok
          subst hQe; exact W.iret hx hb hr (fun t ht hW => ⟨⟨_, (), rfl, rfl, by rw [ht]; exact hP, va_K.moved hW.alike hK, hD⟩, hS.F ht⟩) hS.2.2 dX8_dampWhen_128
  unfold fX8_dampWhen at hok
  obtain ⟨H, hH⟩ : ∃ H, H = s.heap := ⟨_, rfl⟩
  obtain ⟨locs, hlc⟩ : ∃ x : List Loc, x = [] := ⟨_, rfl⟩
  have hP : va_P D vwCl (wX8_dampWhen cy aN qN aH qH qD qW aH0 aH aH0 vN vH vD vD_now vH_places vW vW_who vH_kinds vW_cells vH_sorts vH_next vW_inFront vH_sizes vH_width) H := by rw [hH]; exact hP
  have hS : va_S A s.heap H locs := by rw [hH, hlc]; exact hS
  rw [show W p l e _ s m _ below meth c s.heap [] = W p l e _ s m _ below meth c H locs from by rw [hH, hlc]]
  refine lv_aload_n hx hb dX8_dampWhen_0 rfl (lv_at hl 0 rfl) ?_
  refine va_get (D := D) (ci := 7) (v := .ref aH) (C := RX8) (T := TX8) (N := 9) hx hb ht0 niX8 hown hK hP 0 rfl rfl 5 (by decide) (ht0 _ wd522) (fun _ h9 => h9) rfl dX8_dampWhen_1 ?_
  refine lv_iload_n hx hb dX8_dampWhen_4 rfl (lv_at hl 1 rfl) ?_
  obtain ⟨r5, hc5, hok⟩ := k_bind hok
  refine kCi (wc := (wX4_hasThing cy aH qH vH)) (wc2 := (wX4_hasThing cy aH qH vH)) (wr := [(aN, oX8 vN qN aH), (qN 1, oX1 vD qD), (qD 0, rI cy 9 vD_now), (qH 9, rI cy 4 vH_places), (qN 2, oX6 vW qW aH0), (qW 1, rI cy 36 vW_who), (qH 14, rI cy 7 vH_kinds), (qW 0, rI cy 7 vW_cells), (qH 8, rI cy 4 vH_sorts), (qH 10, rI cy 36 vH_next), (qW 2, rI cy 7 vW_inFront), (qH 15, rI cy 7 vH_sizes), (qH 11, rI cy 36 vH_width)]) (ws2 := (wX8_dampWhen cy aN qN aH qH qD qW aH0 aH aH0 vN vH vD vD_now vH_places vW vW_who vH_kinds vW_cells vH_sorts vH_next vW_inFront vH_sizes vH_width)) (kRunV (As := [.int x1]) (rest := []) ⟨hx, hb, hml, hown, ht0⟩ (kX4_hasThing l D cy _ aH qH vH x1 r5 hc5 _ rfl) (cwV 1 ht0 (gV wd551 wd552 wd553 wd9 wd554) rfl rfl rfl (by decide +kernel) ⟨Nat.le_of_ble_eq_true rfl, Nat.le_of_ble_eq_true rfl⟩) hK hN hP hD [1] rfl (by decide) 1 3 rfl rfl rfl hl.1 rfl (Nat.le_of_ble_eq_true rfl) dX8_dampWhen_5 ⟨Nat.zero_le _, Nat.zero_le _⟩) hP hD hS hA [1] [0, 2, 3, 4, 5, 6, 7, 8, 9, 10, 11, 12, 13] rfl rfl (by decide) (by decide) [0, 13, 1, 2, 3, 4, 5, 6, 7, 8, 9, 10, 11, 12] (by decide) rfl rfl (fun H locs hP hD hS => ?_)
  refine lv_if_ne (tgt := 17) hx hb dX8_dampWhen_8 (by decide) (fun c8 => ?_) (fun c8 => ?_)
  · have hok := k_neg c8 hok
    refine lv_aload_n hx hb dX8_dampWhen_17 rfl (lv_at hl 0 rfl) ?_
    refine va_get (D := D) (ci := 7) (v := .ref (qN 1)) (C := RX8) (T := TX8) (N := 9) hx hb ht0 niX8 hown hK hP 0 rfl rfl 1 (by decide) (ht0 _ wd527) (fun _ h9 => h9) rfl dX8_dampWhen_18 ?_
    refine lv_iload_n hx hb dX8_dampWhen_21 rfl (lv_at hl 1 rfl) ?_
    obtain ⟨r22, hc22, hok⟩ := k_bind hok
    refine kCi (wc := (wX1_cellOf cy (qN 1) qD vD vD_now)) (wc2 := (wX1_cellOf cy (qN 1) qD vD vD_now)) (wr := [(aN, oX8 vN qN aH), (aH, oX4 vH qH), (qH 9, rI cy 4 vH_places), (qN 2, oX6 vW qW aH0), (qW 1, rI cy 36 vW_who), (qH 14, rI cy 7 vH_kinds), (qW 0, rI cy 7 vW_cells), (qH 8, rI cy 4 vH_sorts), (qH 10, rI cy 36 vH_next), (qW 2, rI cy 7 vW_inFront), (qH 15, rI cy 7 vH_sizes), (qH 11, rI cy 36 vH_width)]) (ws2 := (wX8_dampWhen cy aN qN aH qH qD qW aH0 aH aH0 vN vH vD vD_now vH_places vW vW_who vH_kinds vW_cells vH_sorts vH_next vW_inFront vH_sizes vH_width)) (kRunV (As := [.int x1]) (rest := []) ⟨hx, hb, hml, hown, ht0⟩ (kX1_cellOf l D cy _ (qN 1) qD vD vD_now x1 r22 hc22 _ rfl) (cwV 1 ht0 (gV wd556 wd82 wd83 wd74 wd84) rfl rfl rfl (by decide +kernel) ⟨Nat.le_of_ble_eq_true rfl, Nat.le_of_ble_eq_true rfl⟩) hK hN hP hD [2, 3] rfl (by decide) 2 1 rfl rfl rfl hl.1 rfl (Nat.le_of_ble_eq_true rfl) dX8_dampWhen_22 ⟨Nat.zero_le _, Nat.zero_le _⟩) hP hD hS hA [2, 3] [0, 1, 4, 5, 6, 7, 8, 9, 10, 11, 12, 13] rfl rfl (by decide) (by decide) [0, 1, 12, 13, 2, 3, 4, 5, 6, 7, 8, 9, 10, 11] (by decide) rfl rfl (fun H locs hP hD hS => ?_)
    obtain ⟨r25, hc25, hok⟩ := k_bind hok
    refine kCi (wc := (wX8_ringOfCell cy )) (wc2 := (wX8_ringOfCell cy )) (wr := [(aN, oX8 vN qN aH), (aH, oX4 vH qH), (qN 1, oX1 vD qD), (qD 0, rI cy 9 vD_now), (qH 9, rI cy 4 vH_places), (qN 2, oX6 vW qW aH0), (qW 1, rI cy 36 vW_who), (qH 14, rI cy 7 vH_kinds), (qW 0, rI cy 7 vW_cells), (qH 8, rI cy 4 vH_sorts), (qH 10, rI cy 36 vH_next), (qW 2, rI cy 7 vW_inFront), (qH 15, rI cy 7 vH_sizes), (qH 11, rI cy 36 vH_width)]) (ws2 := (wX8_dampWhen cy aN qN aH qH qD qW aH0 aH aH0 vN vH vD vD_now vH_places vW vW_who vH_kinds vW_cells vH_sorts vH_next vW_inFront vH_sizes vH_width)) (kRunS (As := [.int r22]) (rest := []) ⟨hx, hb, hml, hown, ht0⟩ (kX8_ringOfCell l D cy _ r22 r25 hc25 _ rfl) (va_cwS 1 ht0 (gS wd557 wd58 wd57 wd56) rfl rfl rfl (by decide +kernel) ⟨Nat.le_of_ble_eq_true rfl, Nat.le_of_ble_eq_true rfl⟩) hK hN hP hD [] rfl (by decide) rfl hl.1 rfl (Nat.le_of_ble_eq_true rfl) dX8_dampWhen_25 ⟨Nat.zero_le _, Nat.zero_le _⟩) hP hD hS hA [] [0, 1, 2, 3, 4, 5, 6, 7, 8, 9, 10, 11, 12, 13] rfl rfl (by decide) (by decide) [0, 1, 2, 3, 4, 5, 6, 7, 8, 9, 10, 11, 12, 13] (by decide) rfl rfl (fun H locs hP hD hS => ?_)
    refine lv_istore (lv' := [(5, .int r25), (0, .ref aN), (1, .int x1), (2, .int x2), (3, .int x3), (4, .int x4)]) hx hb dX8_dampWhen_28 hl (by decide) rfl (fun ls hl => ?_)
    refine lv_aload_n hx hb dX8_dampWhen_30 rfl (lv_at hl 1 rfl) ?_
    refine va_get (D := D) (ci := 7) (v := .ref aH) (C := RX8) (T := TX8) (N := 9) hx hb ht0 niX8 hown hK hP 0 rfl rfl 5 (by decide) (ht0 _ wd522) (fun _ h9 => h9) rfl dX8_dampWhen_31 ?_
    refine lv_iload hx hb dX8_dampWhen_34 (lv_at hl 0 rfl) ?_
    refine lv_iload_n hx hb dX8_dampWhen_36 rfl (lv_at hl 3 rfl) ?_
    obtain ⟨r37, hc37, hok⟩ := k_bind hok
    refine kCi (wc := (wX4_hasPlace cy aH qH vH vH_places)) (wc2 := (wX4_hasPlace cy aH qH vH vH_places)) (wr := [(aN, oX8 vN qN aH), (qN 1, oX1 vD qD), (qD 0, rI cy 9 vD_now), (qN 2, oX6 vW qW aH0), (qW 1, rI cy 36 vW_who), (qH 14, rI cy 7 vH_kinds), (qW 0, rI cy 7 vW_cells), (qH 8, rI cy 4 vH_sorts), (qH 10, rI cy 36 vH_next), (qW 2, rI cy 7 vW_inFront), (qH 15, rI cy 7 vH_sizes), (qH 11, rI cy 36 vH_width)]) (ws2 := (wX8_dampWhen cy aN qN aH qH qD qW aH0 aH aH0 vN vH vD vD_now vH_places vW vW_who vH_kinds vW_cells vH_sorts vH_next vW_inFront vH_sizes vH_width)) (kRunV (As := [.int r25, .int x2]) (rest := []) ⟨hx, hb, hml, hown, ht0⟩ (kX4_hasPlace l D cy _ aH qH vH vH_places r25 x2 r37 hc37 _ rfl) (cwV 2 ht0 (gV wd566 wd567 wd568 wd9 wd569) rfl rfl rfl (by decide +kernel) ⟨Nat.le_of_ble_eq_true rfl, Nat.le_of_ble_eq_true rfl⟩) hK hN hP hD [1, 4] rfl (by decide) 1 3 rfl rfl rfl hl.1 rfl (Nat.le_of_ble_eq_true rfl) dX8_dampWhen_37 ⟨Nat.zero_le _, Nat.zero_le _⟩) hP hD hS hA [1, 4] [0, 2, 3, 5, 6, 7, 8, 9, 10, 11, 12, 13] rfl rfl (by decide) (by decide) [0, 12, 1, 2, 13, 3, 4, 5, 6, 7, 8, 9, 10, 11] (by decide) rfl rfl (fun H locs hP hD hS => ?_)
    refine lv_if_ne (tgt := 49) hx hb dX8_dampWhen_40 (by decide) (fun c40 => ?_) (fun c40 => ?_)
    · have hok := k_neg c40 hok
      refine lv_iload_n hx hb dX8_dampWhen_49 rfl (lv_at hl 4 rfl) ?_
      refine lv_iload hx hb dX8_dampWhen_50 (lv_at hl 5 rfl) ?_
      obtain ⟨r52, hc52, hok⟩ := k_bind hok
      refine kCi (wc := (wX8_areDampNumbers cy )) (wc2 := (wX8_areDampNumbers cy )) (wr := [(aN, oX8 vN qN aH), (aH, oX4 vH qH), (qN 1, oX1 vD qD), (qD 0, rI cy 9 vD_now), (qH 9, rI cy 4 vH_places), (qN 2, oX6 vW qW aH0), (qW 1, rI cy 36 vW_who), (qH 14, rI cy 7 vH_kinds), (qW 0, rI cy 7 vW_cells), (qH 8, rI cy 4 vH_sorts), (qH 10, rI cy 36 vH_next), (qW 2, rI cy 7 vW_inFront), (qH 15, rI cy 7 vH_sizes), (qH 11, rI cy 36 vH_width)]) (ws2 := (wX8_dampWhen cy aN qN aH qH qD qW aH0 aH aH0 vN vH vD vD_now vH_places vW vW_who vH_kinds vW_cells vH_sorts vH_next vW_inFront vH_sizes vH_width)) (kRunS (As := [.int x3, .int x4]) (rest := []) ⟨hx, hb, hml, hown, ht0⟩ (kX8_areDampNumbers l D cy _ x3 x4 r52 hc52 _ rfl) (va_cwS 2 ht0 (gS wd677 wd678 wd57 wd679) rfl rfl rfl (by decide +kernel) ⟨Nat.le_of_ble_eq_true rfl, Nat.le_of_ble_eq_true rfl⟩) hK hN hP hD [] rfl (by decide) rfl hl.1 rfl (Nat.le_of_ble_eq_true rfl) dX8_dampWhen_52 ⟨Nat.zero_le _, Nat.zero_le _⟩) hP hD hS hA [] [0, 1, 2, 3, 4, 5, 6, 7, 8, 9, 10, 11, 12, 13] rfl rfl (by decide) (by decide) [0, 1, 2, 3, 4, 5, 6, 7, 8, 9, 10, 11, 12, 13] (by decide) rfl rfl (fun H locs hP hD hS => ?_)
      refine lv_if_ne (tgt := 64) hx hb dX8_dampWhen_55 (by decide) (fun c55 => ?_) (fun c55 => ?_)
      · have hok := k_neg c55 hok
        refine lv_aload_n hx hb dX8_dampWhen_64 rfl (lv_at hl 1 rfl) ?_
        refine va_get (D := D) (ci := 7) (v := .ref (qN 2)) (C := RX8) (T := TX8) (N := 9) hx hb ht0 niX8 hown hK hP 0 rfl rfl 2 (by decide) (ht0 _ wd578) (fun _ h9 => h9) rfl dX8_dampWhen_65 ?_
        refine lv_aload_n hx hb dX8_dampWhen_68 rfl (lv_at hl 1 rfl) ?_
        refine va_get (D := D) (ci := 7) (v := .ref aH) (C := RX8) (T := TX8) (N := 9) hx hb ht0 niX8 hown hK hP 0 rfl rfl 5 (by decide) (ht0 _ wd522) (fun _ h9 => h9) rfl dX8_dampWhen_69 ?_
        refine lv_aload_n hx hb dX8_dampWhen_72 rfl (lv_at hl 1 rfl) ?_
        refine va_get (D := D) (ci := 7) (v := .ref (qN 1)) (C := RX8) (T := TX8) (N := 9) hx hb ht0 niX8 hown hK hP 0 rfl rfl 1 (by decide) (ht0 _ wd527) (fun _ h9 => h9) rfl dX8_dampWhen_73 ?_
        refine lv_iconst (v := 0) hx hb dX8_dampWhen_76 (by decide) ?_
        obtain ⟨⟨vW_77, vW_who_77, vW_cells_77⟩, hc77, hok⟩ := k_bind hok
        try dsimp only at hok
        refine kCv (wc := (wX6_start cy (qN 2) aH (qN 1) qW aH0 qD qH aH0 vW vD vD_now vW_who vH vH_kinds vW_cells vH_sorts)) (wc2 := (wX6_start cy (qN 2) aH (qN 1) qW aH0 qD qH aH vW_77 vD vD_now vW_who_77 vH vH_kinds vW_cells_77 vH_sorts)) (wr := [(aN, oX8 vN qN aH), (qH 9, rI cy 4 vH_places), (qH 10, rI cy 36 vH_next), (qW 2, rI cy 7 vW_inFront), (qH 15, rI cy 7 vH_sizes), (qH 11, rI cy 36 vH_width)]) (ws2 := (wX8_dampWhen cy aN qN aH qH qD qW aH0 aH aH vN vH vD vD_now vH_places vW_77 vW_who_77 vH_kinds vW_cells_77 vH_sorts vH_next vW_inFront vH_sizes vH_width)) (kRunV (As := [.ref aH, .ref (qN 1), .int 0]) (rest := []) ⟨hx, hb, hml, hown, ht0⟩ (kX6_start l D cy _ (qN 2) aH (qN 1) qW aH0 qD qH vW vD vD_now vW_who vH vH_kinds vW_cells vH_sorts (0 : Int32) vW_77 vW_who_77 vW_cells_77 hc77 _ rfl) (cwV 3 ht0 (gV wd579 wd181 wd182 wd114 wd183) rfl rfl rfl (by decide +kernel) ⟨Nat.le_of_ble_eq_true rfl, Nat.le_of_ble_eq_true rfl⟩) hK hN hP hD [5, 2, 3, 6, 1, 7, 8, 9] rfl (by decide) 5 5 rfl rfl rfl hl.1 rfl (Nat.le_of_ble_eq_true rfl) dX8_dampWhen_77 ⟨Nat.zero_le _, Nat.zero_le _⟩) hP hD hS hA [5, 2, 3, 6, 1, 7, 8, 9] [0, 4, 10, 11, 12, 13] rfl rfl (by decide) (by decide) [0, 10, 7, 8, 1, 6, 9, 11, 12, 13, 2, 3, 4, 5] (by decide) rfl rfl (fun H locs hP hD hS => ?_)
        refine lv_aload_n hx hb dX8_dampWhen_80 rfl (lv_at hl 1 rfl) ?_
        refine va_get (D := D) (ci := 7) (v := .ref (qN 2)) (C := RX8) (T := TX8) (N := 9) hx hb ht0 niX8 hown hK hP 0 rfl rfl 2 (by decide) (ht0 _ wd578) (fun _ h9 => h9) rfl dX8_dampWhen_81 ?_
        refine lv_iload_n hx hb dX8_dampWhen_84 rfl (lv_at hl 4 rfl) ?_
        obtain ⟨vW_85, hc85, hok⟩ := k_bind hok
        refine kCv (wc := (wX6_sow cy (qN 2) qW aH aH vW_77)) (wc2 := (wX6_sow cy (qN 2) qW aH aH vW_85)) (wr := [(aN, oX8 vN qN aH), (aH, oX4 vH qH), (qN 1, oX1 vD qD), (qD 0, rI cy 9 vD_now), (qH 9, rI cy 4 vH_places), (qW 1, rI cy 36 vW_who_77), (qH 14, rI cy 7 vH_kinds), (qW 0, rI cy 7 vW_cells_77), (qH 8, rI cy 4 vH_sorts), (qH 10, rI cy 36 vH_next), (qW 2, rI cy 7 vW_inFront), (qH 15, rI cy 7 vH_sizes), (qH 11, rI cy 36 vH_width)]) (ws2 := (wX8_dampWhen cy aN qN aH qH qD qW aH0 aH aH vN vH vD vD_now vH_places vW_85 vW_who_77 vH_kinds vW_cells_77 vH_sorts vH_next vW_inFront vH_sizes vH_width)) (kRunV (As := [.int x3]) (rest := []) ⟨hx, hb, hml, hown, ht0⟩ (kX6_sow l D cy _ (qN 2) qW aH vW_77 x3 vW_85 hc85 _ rfl) (cwV 1 ht0 (gV wd680 wd681 wd682 wd114 wd683) rfl rfl rfl (by decide +kernel) ⟨Nat.le_of_ble_eq_true rfl, Nat.le_of_ble_eq_true rfl⟩) hK hN hP hD [5] rfl (by decide) 5 5 rfl rfl rfl hl.1 rfl (Nat.le_of_ble_eq_true rfl) dX8_dampWhen_85 ⟨Nat.zero_le _, Nat.zero_le _⟩) hP hD hS hA [5] [0, 1, 2, 3, 4, 6, 7, 8, 9, 10, 11, 12, 13] rfl rfl (by decide) (by decide) [0, 1, 2, 3, 4, 13, 5, 6, 7, 8, 9, 10, 11, 12] (by decide) rfl rfl (fun H locs hP hD hS => ?_)
        refine lv_iconst (v := 1) hx hb dX8_dampWhen_88 (by decide) ?_
        refine lv_istore (lv' := [(6, .int 1), (5, .int r25), (0, .ref aN), (1, .int x1), (2, .int x2), (3, .int x3), (4, .int x4)]) hx hb dX8_dampWhen_89 hl (by decide) rfl (fun ls hl => ?_)
        exact L91 5000 r25 (1 : Int32) vW_cells_77 vW_inFront vW_who_77 vW_85 H locs ls hP hD hS (lv_sub hl [2, 3, 4, 6, 1, 0] rfl) hok
      · have hok := k_pos c55 hok
        refine lv_aload_n hx hb dX8_dampWhen_58 rfl (lv_at hl 1 rfl) ?_
        refine lv_iconst (v := 2) hx hb dX8_dampWhen_59 (by decide) ?_
        obtain ⟨⟨r60, vN_60⟩, hc60, hok⟩ := k_bind hok
        try dsimp only at hok
        refine kCi (wc := (wX8_refuse cy aN qN aH aH vN)) (wc2 := (wX8_refuse cy aN qN aH aH vN_60)) (wr := [(aH, oX4 vH qH), (qN 1, oX1 vD qD), (qD 0, rI cy 9 vD_now), (qH 9, rI cy 4 vH_places), (qN 2, oX6 vW qW aH0), (qW 1, rI cy 36 vW_who), (qH 14, rI cy 7 vH_kinds), (qW 0, rI cy 7 vW_cells), (qH 8, rI cy 4 vH_sorts), (qH 10, rI cy 36 vH_next), (qW 2, rI cy 7 vW_inFront), (qH 15, rI cy 7 vH_sizes), (qH 11, rI cy 36 vH_width)]) (ws2 := (wX8_dampWhen cy aN qN aH qH qD qW aH0 aH aH0 vN_60 vH vD vD_now vH_places vW vW_who vH_kinds vW_cells vH_sorts vH_next vW_inFront vH_sizes vH_width)) (kRunV (As := [.int 2]) (rest := []) ⟨hx, hb, hml, hown, ht0⟩ (kX8_refuse l D cy _ aN qN aH vN (2 : Int32) r60 vN_60 hc60 _ rfl) (cwV 1 ht0 (gV wd504 wd505 wd506 wd57 wd507) rfl rfl rfl (by decide +kernel) ⟨Nat.le_of_ble_eq_true rfl, Nat.le_of_ble_eq_true rfl⟩) hK hN hP hD [0] rfl (by decide) 0 7 rfl rfl rfl hl.1 rfl (Nat.le_of_ble_eq_true rfl) dX8_dampWhen_60 ⟨Nat.zero_le _, Nat.zero_le _⟩) hP hD hS hA [0] [1, 2, 3, 4, 5, 6, 7, 8, 9, 10, 11, 12, 13] rfl rfl (by decide) (by decide) [13, 0, 1, 2, 3, 4, 5, 6, 7, 8, 9, 10, 11, 12] (by decide) rfl rfl (fun H locs hP hD hS => ?_)
        cases hok
        subst hQe; exact W.iret hx hb hr (fun t ht hW => ⟨⟨_, (), rfl, rfl, by rw [ht]; exact hP, va_K.moved hW.alike hK, hD⟩, hS.F ht⟩) hS.2.2 dX8_dampWhen_63
    · have hok := k_pos c40 hok
      refine lv_aload_n hx hb dX8_dampWhen_43 rfl (lv_at hl 1 rfl) ?_
      refine lv_iconst (v := 1) hx hb dX8_dampWhen_44 (by decide) ?_
      obtain ⟨⟨r45, vN_45⟩, hc45, hok⟩ := k_bind hok
      try dsimp only at hok
      refine kCi (wc := (wX8_refuse cy aN qN aH aH vN)) (wc2 := (wX8_refuse cy aN qN aH aH vN_45)) (wr := [(aH, oX4 vH qH), (qN 1, oX1 vD qD), (qD 0, rI cy 9 vD_now), (qH 9, rI cy 4 vH_places), (qN 2, oX6 vW qW aH0), (qW 1, rI cy 36 vW_who), (qH 14, rI cy 7 vH_kinds), (qW 0, rI cy 7 vW_cells), (qH 8, rI cy 4 vH_sorts), (qH 10, rI cy 36 vH_next), (qW 2, rI cy 7 vW_inFront), (qH 15, rI cy 7 vH_sizes), (qH 11, rI cy 36 vH_width)]) (ws2 := (wX8_dampWhen cy aN qN aH qH qD qW aH0 aH aH0 vN_45 vH vD vD_now vH_places vW vW_who vH_kinds vW_cells vH_sorts vH_next vW_inFront vH_sizes vH_width)) (kRunV (As := [.int 1]) (rest := []) ⟨hx, hb, hml, hown, ht0⟩ (kX8_refuse l D cy _ aN qN aH vN (1 : Int32) r45 vN_45 hc45 _ rfl) (cwV 1 ht0 (gV wd504 wd505 wd506 wd57 wd507) rfl rfl rfl (by decide +kernel) ⟨Nat.le_of_ble_eq_true rfl, Nat.le_of_ble_eq_true rfl⟩) hK hN hP hD [0] rfl (by decide) 0 7 rfl rfl rfl hl.1 rfl (Nat.le_of_ble_eq_true rfl) dX8_dampWhen_45 ⟨Nat.zero_le _, Nat.zero_le _⟩) hP hD hS hA [0] [1, 2, 3, 4, 5, 6, 7, 8, 9, 10, 11, 12, 13] rfl rfl (by decide) (by decide) [13, 0, 1, 2, 3, 4, 5, 6, 7, 8, 9, 10, 11, 12] (by decide) rfl rfl (fun H locs hP hD hS => ?_)
      cases hok
      subst hQe; exact W.iret hx hb hr (fun t ht hW => ⟨⟨_, (), rfl, rfl, by rw [ht]; exact hP, va_K.moved hW.alike hK, hD⟩, hS.F ht⟩) hS.2.2 dX8_dampWhen_48
  · have hok := k_pos c8 hok
    refine lv_aload_n hx hb dX8_dampWhen_11 rfl (lv_at hl 0 rfl) ?_
    refine lv_iconst (v := 1) hx hb dX8_dampWhen_12 (by decide) ?_
    obtain ⟨⟨r13, vN_13⟩, hc13, hok⟩ := k_bind hok
    try dsimp only at hok
    refine kCi (wc := (wX8_refuse cy aN qN aH aH vN)) (wc2 := (wX8_refuse cy aN qN aH aH vN_13)) (wr := [(aH, oX4 vH qH), (qN 1, oX1 vD qD), (qD 0, rI cy 9 vD_now), (qH 9, rI cy 4 vH_places), (qN 2, oX6 vW qW aH0), (qW 1, rI cy 36 vW_who), (qH 14, rI cy 7 vH_kinds), (qW 0, rI cy 7 vW_cells), (qH 8, rI cy 4 vH_sorts), (qH 10, rI cy 36 vH_next), (qW 2, rI cy 7 vW_inFront), (qH 15, rI cy 7 vH_sizes), (qH 11, rI cy 36 vH_width)]) (ws2 := (wX8_dampWhen cy aN qN aH qH qD qW aH0 aH aH0 vN_13 vH vD vD_now vH_places vW vW_who vH_kinds vW_cells vH_sorts vH_next vW_inFront vH_sizes vH_width)) (kRunV (As := [.int 1]) (rest := []) ⟨hx, hb, hml, hown, ht0⟩ (kX8_refuse l D cy _ aN qN aH vN (1 : Int32) r13 vN_13 hc13 _ rfl) (cwV 1 ht0 (gV wd504 wd505 wd506 wd57 wd507) rfl rfl rfl (by decide +kernel) ⟨Nat.le_of_ble_eq_true rfl, Nat.le_of_ble_eq_true rfl⟩) hK hN hP hD [0] rfl (by decide) 0 7 rfl rfl rfl hl.1 rfl (Nat.le_of_ble_eq_true rfl) dX8_dampWhen_13 ⟨Nat.zero_le _, Nat.zero_le _⟩) hP hD hS hA [0] [1, 2, 3, 4, 5, 6, 7, 8, 9, 10, 11, 12, 13] rfl rfl (by decide) (by decide) [13, 0, 1, 2, 3, 4, 5, 6, 7, 8, 9, 10, 11, 12] (by decide) rfl rfl (fun H locs hP hD hS => ?_)
    cases hok
    subst hQe; exact W.iret hx hb hr (fun t ht hW => ⟨⟨_, (), rfl, rfl, by rw [ht]; exact hP, va_K.moved hW.alike hK, hD⟩, hS.F ht⟩) hS.2.2 dX8_dampWhen_16
def wsX8_isDone : List Cond := .code yX8_isDone cX8_isDone 2 (some .boolean) :: W0
abbrev wX8_isDone (cy : Nat → ClassId) (aN : Nat) (qN : Nat → Nat) (aH : Nat) (fvN_5 : Nat) (vN : Nat → Int32) : va_W := [(aN, oX8 vN qN fvN_5)]
set_option maxHeartbeats 4000000 in
set_option maxRecDepth 100000 in
theorem kX8_isDone (l : Launch) (D : va_G) (cy : Nat → ClassId) (sz : Nat) (aN : Nat) (qN : Nat → Nat) (aH : Nat) (vN : Nat → Int32) (x1 : Int32) (zr : Int32) (z_vN : Nat → Int32) (hok : fX8_isDone vN x1 = some (zr, z_vN)) (A : Nat → Prop) (hAe : va_A (wX8_isDone cy aN qN aH aH vN) sz = A) : Met l yX8_isDone wsX8_isDone ({ frames := 0, cells := 0, slots := 0, locals := 0 } : Room) (kPre D cy [.ref aN, .int x1] (wX8_isDone cy aN qN aH aH vN) sz) (kQi D cy zr A (wX8_isDone cy aN qN aH aH z_vN)) 0 0 A := by
  refine Met.ofW (cc := cX8_isDone) (maxL := 2) (ret := (some .boolean)) (by decide) rfl ?_
  intro p e s m args below meth c s₁ B hml hv
  obtain ⟨rfl, hsz, hP, hK, hD0, hN⟩ := hv
  have hx := B.exec
  have hb := B.bytes
  have hr := B.returns
  have ht0 : ∀ w ∈ W0, w.before _ s = true := fun w h => atoms_spec (ws := wsX8_isDone) B.pre w (List.mem_cons_of_mem _ h)
  have hown : s.vm.findClass RX8 = some m.cls := findClass_of_methodNamed B.named
  have hlocks := B.notSynchronized
  subst hsz
  have hD : va_D A (wX8_isDone cy aN qN aH aH vN) := by rw [← hAe]; exact hD0.self
  have hA : ∀ q : Nat, s.heap.size ≤ q → A q := fun q h => by rw [← hAe]; exact Or.inr h
  have hS : va_S A s.heap s.heap [] := va_S.rf
  have hl := lv_entry ([.ref aN, .int x1]) (n := 2) (Nat.le_of_ble_eq_true rfl)
  rw [lg_entry_eq]
  generalize (lg_sl ([.ref aN, .int x1]) ++ List.replicate (2 - (lg_sl ([.ref aN, .int x1])).length) Slot.unset).toArray = ls at hl ⊢
  have hl : lv_has ls 2 [(0, .ref aN), (1, .int x1)] := hl
  generalize hQe : MQ below (kQi D cy zr A (wX8_isDone cy aN qN aH aH z_vN)) ([.ref aN, .int x1] : List Value).toArray s 0 0 A = Q
  have J14 : ∀ (t0_14 : Int32), ∀ (H : Heap) (locs : List Loc) (ls : Array Slot), va_P D vwCl (wX8_isDone cy aN qN aH aH (upd vN 6 x1)) H → va_D A (wX8_isDone cy aN qN aH aH (upd vN 6 x1)) → va_S A s.heap H locs → lv_has ls 2 [] → fX8_isDone_J14 vN x1 t0_14 = some (zr, z_vN) → W p l e ({ frames := 0, cells := 0, slots := 0, locals := 0 } : Room) s m ([.ref aN, .int x1] : List Value).toArray below meth c H locs 0 0 Q (F0 m 14 ls [.int t0_14]) := by
    intro t0_14 H locs ls hP hD hS hl hok
    unfold fX8_isDone_J14 at hok
    obtain ⟨g14, hok⟩ := gd_some hok
    cases hok
    subst hQe; exact W.zret hx hb hr (isB_nar g14) (fun t ht hW => ⟨⟨_, (), rfl, rfl, by rw [ht]; exact hP, va_K.moved hW.alike hK, hD⟩, hS.F ht⟩) hS.2.2 dX8_isDone_14
  unfold fX8_isDone at hok
  obtain ⟨H, hH⟩ : ∃ H, H = s.heap := ⟨_, rfl⟩
  obtain ⟨locs, hlc⟩ : ∃ x : List Loc, x = [] := ⟨_, rfl⟩
  have hP : va_P D vwCl (wX8_isDone cy aN qN aH aH vN) H := by rw [hH]; exact hP
  have hS : va_S A s.heap H locs := by rw [hH, hlc]; exact hS
  rw [show W p l e _ s m _ below meth c s.heap [] = W p l e _ s m _ below meth c H locs from by rw [hH, hlc]]
  refine lv_aload_n hx hb dX8_isDone_0 rfl (lv_at hl 0 rfl) ?_
  refine lv_iload_n hx hb dX8_isDone_1 rfl (lv_at hl 1 rfl) ?_
  refine va_put (D := D) (ci := 7) (v := .int x1) (ty := .int) (C := RX8) (T := TX8) (N := 9) hx hb ht0 niX8 tyX8 tyX8_ok nmX8 hown hK hP hD hS 0 rfl rfl 6 (by decide) (ht0 _ wd503) (fun _ h9 => h9) rfl (by decide +kernel) rfl rfl (Nat.le_of_ble_eq_true rfl) dX8_isDone_2 (fun H locs hP hD hS => ?_)
  have hP : va_P D vwCl (wX8_isDone cy aN qN aH aH (upd vN 6 x1)) H := hP
  have hD : va_D A (wX8_isDone cy aN qN aH aH (upd vN 6 x1)) := hD
  refine lv_iload_n hx hb dX8_isDone_5 rfl (lv_at hl 1 rfl) ?_
  refine lv_if_ne (tgt := 13) hx hb dX8_isDone_6 (by decide) (fun c6 => ?_) (fun c6 => ?_)
  · have hok := k_neg c6 hok
    refine lv_iconst (v := 0) hx hb dX8_isDone_13 (by decide) ?_
    exact J14 (0 : Int32) H locs ls hP hD hS (lv_sub hl [] rfl) hok
  · have hok := k_pos c6 hok
    refine lv_iconst (v := 1) hx hb dX8_isDone_9 (by decide) ?_
    refine lv_goto (tgt := 14) hx hb dX8_isDone_10 (by decide) ?_
    exact J14 (1 : Int32) H locs ls hP hD hS (lv_sub hl [] rfl) hok
def wsX8_hold : List Cond := .code yX8_hold cX8_hold 2 (some .boolean) :: W0
abbrev wX8_hold (cy : Nat → ClassId) (aN : Nat) (qN : Nat → Nat) (aH : Nat) (qH : Nat → Nat) (qD : Nat → Nat) (pD_past : Nat → Nat) (fvN_5 : Nat) (vN : Nat → Int32) (vH : Nat → Int32) (vD : Nat → Int32) (vD_now : Nat → Int32) (vD_past : Nat → Nat → Int32) : va_W := [(aN, oX8 vN qN fvN_5), (aH, oX4 vH qH), (qN 1, oX1 vD qD), (qD 0, rI cy 9 vD_now), (qD 1, rR cy 16 (fun j => some (pD_past j))), (pD_past 0, rI cy 9 (vD_past 0)), (pD_past 1, rI cy 9 (vD_past 1)), (pD_past 2, rI cy 9 (vD_past 2)), (pD_past 3, rI cy 9 (vD_past 3)), (pD_past 4, rI cy 9 (vD_past 4)), (pD_past 5, rI cy 9 (vD_past 5)), (pD_past 6, rI cy 9 (vD_past 6)), (pD_past 7, rI cy 9 (vD_past 7)), (pD_past 8, rI cy 9 (vD_past 8)), (pD_past 9, rI cy 9 (vD_past 9)), (pD_past 10, rI cy 9 (vD_past 10)), (pD_past 11, rI cy 9 (vD_past 11)), (pD_past 12, rI cy 9 (vD_past 12)), (pD_past 13, rI cy 9 (vD_past 13)), (pD_past 14, rI cy 9 (vD_past 14)), (pD_past 15, rI cy 9 (vD_past 15))]
set_option maxHeartbeats 4000000 in
set_option maxRecDepth 100000 in
theorem kX8_hold (l : Launch) (D : va_G) (cy : Nat → ClassId) (sz : Nat) (aN : Nat) (qN : Nat → Nat) (aH : Nat) (qH : Nat → Nat) (qD : Nat → Nat) (pD_past : Nat → Nat) (vN : Nat → Int32) (vH : Nat → Int32) (vD : Nat → Int32) (vD_now : Nat → Int32) (vD_past : Nat → Nat → Int32) (x1 : Int32) (zr : Int32) (z_vN : Nat → Int32) (z_vD : Nat → Int32) (z_vD_now : Nat → Int32) (z_vD_past : Nat → Nat → Int32) (hok : fX8_hold vN vH vD vD_now vD_past x1 = some (zr, z_vN, z_vD, z_vD_now, z_vD_past)) (A : Nat → Prop) (hAe : va_A (wX8_hold cy aN qN aH qH qD pD_past aH vN vH vD vD_now vD_past) sz = A) : Met l yX8_hold wsX8_hold ({ frames := 2, cells := 0, slots := 0, locals := 60 } : Room) (kPre D cy [.ref aN, .int x1] (wX8_hold cy aN qN aH qH qD pD_past aH vN vH vD vD_now vD_past) sz) (kQi D cy zr A (wX8_hold cy aN qN aH qH qD pD_past aH z_vN vH z_vD z_vD_now z_vD_past)) 0 0 A := by
  refine Met.ofW (cc := cX8_hold) (maxL := 2) (ret := (some .boolean)) (by decide) rfl ?_
  intro p e s m args below meth c s₁ B hml hv
  obtain ⟨rfl, hsz, hP, hK, hD0, hN⟩ := hv
  have hx := B.exec
  have hb := B.bytes
  have hr := B.returns
  have ht0 : ∀ w ∈ W0, w.before _ s = true := fun w h => atoms_spec (ws := wsX8_hold) B.pre w (List.mem_cons_of_mem _ h)
  have hown : s.vm.findClass RX8 = some m.cls := findClass_of_methodNamed B.named
  have hlocks := B.notSynchronized
  subst hsz
  have hD : va_D A (wX8_hold cy aN qN aH qH qD pD_past aH vN vH vD vD_now vD_past) := by rw [← hAe]; exact hD0.self
  have hA : ∀ q : Nat, s.heap.size ≤ q → A q := fun q h => by rw [← hAe]; exact Or.inr h
  have hS : va_S A s.heap s.heap [] := va_S.rf
  have hl := lv_entry ([.ref aN, .int x1]) (n := 2) (Nat.le_of_ble_eq_true rfl)
  rw [lg_entry_eq]
  generalize (lg_sl ([.ref aN, .int x1]) ++ List.replicate (2 - (lg_sl ([.ref aN, .int x1])).length) Slot.unset).toArray = ls at hl ⊢
  have hl : lv_has ls 2 [(0, .ref aN), (1, .int x1)] := hl
  unfold fX8_hold at hok
  obtain ⟨H, hH⟩ : ∃ H, H = s.heap := ⟨_, rfl⟩
  obtain ⟨locs, hlc⟩ : ∃ x : List Loc, x = [] := ⟨_, rfl⟩
  have hP : va_P D vwCl (wX8_hold cy aN qN aH qH qD pD_past aH vN vH vD vD_now vD_past) H := by rw [hH]; exact hP
  have hS : va_S A s.heap H locs := by rw [hH, hlc]; exact hS
  rw [show W p l e _ s m _ below meth c s.heap [] = W p l e _ s m _ below meth c H locs from by rw [hH, hlc]]
  refine lv_aload_n hx hb dX8_hold_0 rfl (lv_at hl 0 rfl) ?_
  refine va_get (D := D) (ci := 7) (v := .ref aH) (C := RX8) (T := TX8) (N := 9) hx hb ht0 niX8 hown hK hP 0 rfl rfl 5 (by decide) (ht0 _ wd522) (fun _ h9 => h9) rfl dX8_hold_1 ?_
  refine lv_iload_n hx hb dX8_hold_4 rfl (lv_at hl 1 rfl) ?_
  obtain ⟨r5, hc5, hok⟩ := k_bind hok
  refine kCi (wc := (wX4_hasThing cy aH qH vH)) (wc2 := (wX4_hasThing cy aH qH vH)) (wr := [(aN, oX8 vN qN aH), (qN 1, oX1 vD qD), (qD 0, rI cy 9 vD_now), (qD 1, rR cy 16 (fun j => some (pD_past j))), (pD_past 0, rI cy 9 (vD_past 0)), (pD_past 1, rI cy 9 (vD_past 1)), (pD_past 2, rI cy 9 (vD_past 2)), (pD_past 3, rI cy 9 (vD_past 3)), (pD_past 4, rI cy 9 (vD_past 4)), (pD_past 5, rI cy 9 (vD_past 5)), (pD_past 6, rI cy 9 (vD_past 6)), (pD_past 7, rI cy 9 (vD_past 7)), (pD_past 8, rI cy 9 (vD_past 8)), (pD_past 9, rI cy 9 (vD_past 9)), (pD_past 10, rI cy 9 (vD_past 10)), (pD_past 11, rI cy 9 (vD_past 11)), (pD_past 12, rI cy 9 (vD_past 12)), (pD_past 13, rI cy 9 (vD_past 13)), (pD_past 14, rI cy 9 (vD_past 14)), (pD_past 15, rI cy 9 (vD_past 15))]) (ws2 := (wX8_hold cy aN qN aH qH qD pD_past aH vN vH vD vD_now vD_past)) (kRunV (As := [.int x1]) (rest := []) ⟨hx, hb, hml, hown, ht0⟩ (kX4_hasThing l D cy _ aH qH vH x1 r5 hc5 _ rfl) (cwV 1 ht0 (gV wd551 wd552 wd553 wd9 wd554) rfl rfl rfl (by decide +kernel) ⟨Nat.le_of_ble_eq_true rfl, Nat.le_of_ble_eq_true rfl⟩) hK hN hP hD [1] rfl (by decide) 1 3 rfl rfl rfl hl.1 rfl (Nat.le_of_ble_eq_true rfl) dX8_hold_5 ⟨Nat.zero_le _, Nat.zero_le _⟩) hP hD hS hA [1] [0, 2, 3, 4, 5, 6, 7, 8, 9, 10, 11, 12, 13, 14, 15, 16, 17, 18, 19, 20] rfl rfl (by decide) (by decide) [0, 20, 1, 2, 3, 4, 5, 6, 7, 8, 9, 10, 11, 12, 13, 14, 15, 16, 17, 18, 19] (by decide) rfl rfl (fun H locs hP hD hS => ?_)
  refine lv_if_ne (tgt := 17) hx hb dX8_hold_8 (by decide) (fun c8 => ?_) (fun c8 => ?_)
  · have hok := k_neg c8 hok
    refine lv_aload_n hx hb dX8_hold_17 rfl (lv_at hl 0 rfl) ?_
    refine va_get (D := D) (ci := 7) (v := .ref (qN 1)) (C := RX8) (T := TX8) (N := 9) hx hb ht0 niX8 hown hK hP 0 rfl rfl 1 (by decide) (ht0 _ wd527) (fun _ h9 => h9) rfl dX8_hold_18 ?_
    refine lv_iload_n hx hb dX8_hold_21 rfl (lv_at hl 1 rfl) ?_
    obtain ⟨r22, hc22, hok⟩ := k_bind hok
    refine kCi (wc := (wX1_isHeld cy (qN 1) qD vD vD_now)) (wc2 := (wX1_isHeld cy (qN 1) qD vD vD_now)) (wr := [(aN, oX8 vN qN aH), (aH, oX4 vH qH), (qD 1, rR cy 16 (fun j => some (pD_past j))), (pD_past 0, rI cy 9 (vD_past 0)), (pD_past 1, rI cy 9 (vD_past 1)), (pD_past 2, rI cy 9 (vD_past 2)), (pD_past 3, rI cy 9 (vD_past 3)), (pD_past 4, rI cy 9 (vD_past 4)), (pD_past 5, rI cy 9 (vD_past 5)), (pD_past 6, rI cy 9 (vD_past 6)), (pD_past 7, rI cy 9 (vD_past 7)), (pD_past 8, rI cy 9 (vD_past 8)), (pD_past 9, rI cy 9 (vD_past 9)), (pD_past 10, rI cy 9 (vD_past 10)), (pD_past 11, rI cy 9 (vD_past 11)), (pD_past 12, rI cy 9 (vD_past 12)), (pD_past 13, rI cy 9 (vD_past 13)), (pD_past 14, rI cy 9 (vD_past 14)), (pD_past 15, rI cy 9 (vD_past 15))]) (ws2 := (wX8_hold cy aN qN aH qH qD pD_past aH vN vH vD vD_now vD_past)) (kRunV (As := [.int x1]) (rest := []) ⟨hx, hb, hml, hown, ht0⟩ (kX1_isHeld l D cy _ (qN 1) qD vD vD_now x1 r22 hc22 _ rfl) (cwV 1 ht0 (gV wd565 wd72 wd73 wd74 wd75) rfl rfl rfl (by decide +kernel) ⟨Nat.le_of_ble_eq_true rfl, Nat.le_of_ble_eq_true rfl⟩) hK hN hP hD [2, 3] rfl (by decide) 2 1 rfl rfl rfl hl.1 rfl (Nat.le_of_ble_eq_true rfl) dX8_hold_22 ⟨Nat.zero_le _, Nat.zero_le _⟩) hP hD hS hA [2, 3] [0, 1, 4, 5, 6, 7, 8, 9, 10, 11, 12, 13, 14, 15, 16, 17, 18, 19, 20] rfl rfl (by decide) (by decide) [0, 1, 19, 20, 2, 3, 4, 5, 6, 7, 8, 9, 10, 11, 12, 13, 14, 15, 16, 17, 18] (by decide) rfl rfl (fun H locs hP hD hS => ?_)
    refine lv_if_eq (tgt := 34) hx hb dX8_hold_25 (by decide) (fun c25 => ?_) (fun c25 => ?_)
    · have hok := k_pos c25 hok
      refine lv_aload_n hx hb dX8_hold_34 rfl (lv_at hl 0 rfl) ?_
      refine va_get (D := D) (ci := 7) (v := .ref (qN 1)) (C := RX8) (T := TX8) (N := 9) hx hb ht0 niX8 hown hK hP 0 rfl rfl 1 (by decide) (ht0 _ wd527) (fun _ h9 => h9) rfl dX8_hold_35 ?_
      obtain ⟨⟨vD_38, vD_past_38⟩, hc38, hok⟩ := k_bind hok
      try dsimp only at hok
      refine kCv (wc := (wX1_keep cy (qN 1) qD pD_past vD vD_past vD_now)) (wc2 := (wX1_keep cy (qN 1) qD pD_past vD_38 vD_past_38 vD_now)) (wr := [(aN, oX8 vN qN aH), (aH, oX4 vH qH)]) (ws2 := (wX8_hold cy aN qN aH qH qD pD_past aH vN vH vD_38 vD_now vD_past_38)) (kRunV (As := []) (rest := []) ⟨hx, hb, hml, hown, ht0⟩ (kX1_keep l D cy _ (qN 1) qD pD_past vD vD_past vD_now vD_38 vD_past_38 hc38 _ rfl) (cwV 0 ht0 (gV wd684 wd685 wd686 wd74 wd687) rfl rfl rfl (by decide +kernel) ⟨Nat.le_of_ble_eq_true rfl, Nat.le_of_ble_eq_true rfl⟩) hK hN hP hD [2, 4, 5, 6, 7, 8, 9, 10, 11, 12, 13, 14, 15, 16, 17, 18, 19, 20, 3] rfl (by decide) 2 1 rfl rfl rfl hl.1 rfl (Nat.le_of_ble_eq_true rfl) dX8_hold_38 ⟨Nat.zero_le _, Nat.zero_le _⟩) hP hD hS hA [2, 4, 5, 6, 7, 8, 9, 10, 11, 12, 13, 14, 15, 16, 17, 18, 19, 20, 3] [0, 1] rfl rfl (by decide) (by decide) [0, 1, 2, 20, 3, 4, 5, 6, 7, 8, 9, 10, 11, 12, 13, 14, 15, 16, 17, 18, 19] (by decide) rfl rfl (fun H locs hP hD hS => ?_)
      refine lv_aload_n hx hb dX8_hold_41 rfl (lv_at hl 0 rfl) ?_
      refine va_get (D := D) (ci := 7) (v := .ref (qN 1)) (C := RX8) (T := TX8) (N := 9) hx hb ht0 niX8 hown hK hP 0 rfl rfl 1 (by decide) (ht0 _ wd527) (fun _ h9 => h9) rfl dX8_hold_42 ?_
      refine lv_iload_n hx hb dX8_hold_45 rfl (lv_at hl 1 rfl) ?_
      obtain ⟨vD_now_46, hc46, hok⟩ := k_bind hok
      refine kCv (wc := (wX1_turnHeld cy (qN 1) qD vD_38 vD_now)) (wc2 := (wX1_turnHeld cy (qN 1) qD vD_38 vD_now_46)) (wr := [(aN, oX8 vN qN aH), (aH, oX4 vH qH), (qD 1, rR cy 16 (fun j => some (pD_past j))), (pD_past 0, rI cy 9 (vD_past_38 0)), (pD_past 1, rI cy 9 (vD_past_38 1)), (pD_past 2, rI cy 9 (vD_past_38 2)), (pD_past 3, rI cy 9 (vD_past_38 3)), (pD_past 4, rI cy 9 (vD_past_38 4)), (pD_past 5, rI cy 9 (vD_past_38 5)), (pD_past 6, rI cy 9 (vD_past_38 6)), (pD_past 7, rI cy 9 (vD_past_38 7)), (pD_past 8, rI cy 9 (vD_past_38 8)), (pD_past 9, rI cy 9 (vD_past_38 9)), (pD_past 10, rI cy 9 (vD_past_38 10)), (pD_past 11, rI cy 9 (vD_past_38 11)), (pD_past 12, rI cy 9 (vD_past_38 12)), (pD_past 13, rI cy 9 (vD_past_38 13)), (pD_past 14, rI cy 9 (vD_past_38 14)), (pD_past 15, rI cy 9 (vD_past_38 15))]) (ws2 := (wX8_hold cy aN qN aH qH qD pD_past aH vN vH vD_38 vD_now_46 vD_past_38)) (kRunV (As := [.int x1]) (rest := []) ⟨hx, hb, hml, hown, ht0⟩ (kX1_turnHeld l D cy _ (qN 1) qD vD_38 vD_now x1 vD_now_46 hc46 _ rfl) (cwV 1 ht0 (gV wd688 wd689 wd690 wd74 wd691) rfl rfl rfl (by decide +kernel) ⟨Nat.le_of_ble_eq_true rfl, Nat.le_of_ble_eq_true rfl⟩) hK hN hP hD [2, 3] rfl (by decide) 2 1 rfl rfl rfl hl.1 rfl (Nat.le_of_ble_eq_true rfl) dX8_hold_46 ⟨Nat.zero_le _, Nat.zero_le _⟩) hP hD hS hA [2, 3] [0, 1, 4, 5, 6, 7, 8, 9, 10, 11, 12, 13, 14, 15, 16, 17, 18, 19, 20] rfl rfl (by decide) (by decide) [0, 1, 19, 20, 2, 3, 4, 5, 6, 7, 8, 9, 10, 11, 12, 13, 14, 15, 16, 17, 18] (by decide) rfl rfl (fun H locs hP hD hS => ?_)
      refine lv_aload_n hx hb dX8_hold_49 rfl (lv_at hl 0 rfl) ?_
      refine lv_iconst (v := 0) hx hb dX8_hold_50 (by decide) ?_
      obtain ⟨⟨r51, vN_51⟩, hc51, hok⟩ := k_bind hok
      try dsimp only at hok
      refine kCi (wc := (wX8_isDone cy aN qN aH aH vN)) (wc2 := (wX8_isDone cy aN qN aH aH vN_51)) (wr := [(aH, oX4 vH qH), (qN 1, oX1 vD_38 qD), (qD 0, rI cy 9 vD_now_46), (qD 1, rR cy 16 (fun j => some (pD_past j))), (pD_past 0, rI cy 9 (vD_past_38 0)), (pD_past 1, rI cy 9 (vD_past_38 1)), (pD_past 2, rI cy 9 (vD_past_38 2)), (pD_past 3, rI cy 9 (vD_past_38 3)), (pD_past 4, rI cy 9 (vD_past_38 4)), (pD_past 5, rI cy 9 (vD_past_38 5)), (pD_past 6, rI cy 9 (vD_past_38 6)), (pD_past 7, rI cy 9 (vD_past_38 7)), (pD_past 8, rI cy 9 (vD_past_38 8)), (pD_past 9, rI cy 9 (vD_past_38 9)), (pD_past 10, rI cy 9 (vD_past_38 10)), (pD_past 11, rI cy 9 (vD_past_38 11)), (pD_past 12, rI cy 9 (vD_past_38 12)), (pD_past 13, rI cy 9 (vD_past_38 13)), (pD_past 14, rI cy 9 (vD_past_38 14)), (pD_past 15, rI cy 9 (vD_past_38 15))]) (ws2 := (wX8_hold cy aN qN aH qH qD pD_past aH vN_51 vH vD_38 vD_now_46 vD_past_38)) (kRunV (As := [.int 0]) (rest := []) ⟨hx, hb, hml, hown, ht0⟩ (kX8_isDone l D cy _ aN qN aH vN (0 : Int32) r51 vN_51 hc51 _ rfl) (cwV 1 ht0 (gV wd692 wd693 wd694 wd57 wd695) rfl rfl rfl (by decide +kernel) ⟨Nat.le_of_ble_eq_true rfl, Nat.le_of_ble_eq_true rfl⟩) hK hN hP hD [0] rfl (by decide) 0 7 rfl rfl rfl hl.1 rfl (Nat.le_of_ble_eq_true rfl) dX8_hold_51 ⟨Nat.zero_le _, Nat.zero_le _⟩) hP hD hS hA [0] [1, 2, 3, 4, 5, 6, 7, 8, 9, 10, 11, 12, 13, 14, 15, 16, 17, 18, 19, 20] rfl rfl (by decide) (by decide) [20, 0, 1, 2, 3, 4, 5, 6, 7, 8, 9, 10, 11, 12, 13, 14, 15, 16, 17, 18, 19] (by decide) rfl rfl (fun H locs hP hD hS => ?_)
      obtain ⟨g54, hok⟩ := gd_some hok
      cases hok
      exact W.zret hx hb hr (isB_nar g54) (fun t ht hW => ⟨⟨_, (), rfl, rfl, by rw [ht]; exact hP, va_K.moved hW.alike hK, hD⟩, hS.F ht⟩) hS.2.2 dX8_hold_54
    · have hok := k_neg c25 hok
      refine lv_aload_n hx hb dX8_hold_28 rfl (lv_at hl 0 rfl) ?_
      refine lv_iconst (v := 5) hx hb dX8_hold_29 (by decide) ?_
      obtain ⟨⟨r30, vN_30⟩, hc30, hok⟩ := k_bind hok
      try dsimp only at hok
      refine kCi (wc := (wX8_isDone cy aN qN aH aH vN)) (wc2 := (wX8_isDone cy aN qN aH aH vN_30)) (wr := [(aH, oX4 vH qH), (qN 1, oX1 vD qD), (qD 0, rI cy 9 vD_now), (qD 1, rR cy 16 (fun j => some (pD_past j))), (pD_past 0, rI cy 9 (vD_past 0)), (pD_past 1, rI cy 9 (vD_past 1)), (pD_past 2, rI cy 9 (vD_past 2)), (pD_past 3, rI cy 9 (vD_past 3)), (pD_past 4, rI cy 9 (vD_past 4)), (pD_past 5, rI cy 9 (vD_past 5)), (pD_past 6, rI cy 9 (vD_past 6)), (pD_past 7, rI cy 9 (vD_past 7)), (pD_past 8, rI cy 9 (vD_past 8)), (pD_past 9, rI cy 9 (vD_past 9)), (pD_past 10, rI cy 9 (vD_past 10)), (pD_past 11, rI cy 9 (vD_past 11)), (pD_past 12, rI cy 9 (vD_past 12)), (pD_past 13, rI cy 9 (vD_past 13)), (pD_past 14, rI cy 9 (vD_past 14)), (pD_past 15, rI cy 9 (vD_past 15))]) (ws2 := (wX8_hold cy aN qN aH qH qD pD_past aH vN_30 vH vD vD_now vD_past)) (kRunV (As := [.int 5]) (rest := []) ⟨hx, hb, hml, hown, ht0⟩ (kX8_isDone l D cy _ aN qN aH vN (5 : Int32) r30 vN_30 hc30 _ rfl) (cwV 1 ht0 (gV wd692 wd693 wd694 wd57 wd695) rfl rfl rfl (by decide +kernel) ⟨Nat.le_of_ble_eq_true rfl, Nat.le_of_ble_eq_true rfl⟩) hK hN hP hD [0] rfl (by decide) 0 7 rfl rfl rfl hl.1 rfl (Nat.le_of_ble_eq_true rfl) dX8_hold_30 ⟨Nat.zero_le _, Nat.zero_le _⟩) hP hD hS hA [0] [1, 2, 3, 4, 5, 6, 7, 8, 9, 10, 11, 12, 13, 14, 15, 16, 17, 18, 19, 20] rfl rfl (by decide) (by decide) [20, 0, 1, 2, 3, 4, 5, 6, 7, 8, 9, 10, 11, 12, 13, 14, 15, 16, 17, 18, 19] (by decide) rfl rfl (fun H locs hP hD hS => ?_)
      obtain ⟨g33, hok⟩ := gd_some hok
      cases hok
      exact W.zret hx hb hr (isB_nar g33) (fun t ht hW => ⟨⟨_, (), rfl, rfl, by rw [ht]; exact hP, va_K.moved hW.alike hK, hD⟩, hS.F ht⟩) hS.2.2 dX8_hold_33
  · have hok := k_pos c8 hok
    refine lv_aload_n hx hb dX8_hold_11 rfl (lv_at hl 0 rfl) ?_
    refine lv_iconst (v := 1) hx hb dX8_hold_12 (by decide) ?_
    obtain ⟨⟨r13, vN_13⟩, hc13, hok⟩ := k_bind hok
    try dsimp only at hok
    refine kCi (wc := (wX8_isDone cy aN qN aH aH vN)) (wc2 := (wX8_isDone cy aN qN aH aH vN_13)) (wr := [(aH, oX4 vH qH), (qN 1, oX1 vD qD), (qD 0, rI cy 9 vD_now), (qD 1, rR cy 16 (fun j => some (pD_past j))), (pD_past 0, rI cy 9 (vD_past 0)), (pD_past 1, rI cy 9 (vD_past 1)), (pD_past 2, rI cy 9 (vD_past 2)), (pD_past 3, rI cy 9 (vD_past 3)), (pD_past 4, rI cy 9 (vD_past 4)), (pD_past 5, rI cy 9 (vD_past 5)), (pD_past 6, rI cy 9 (vD_past 6)), (pD_past 7, rI cy 9 (vD_past 7)), (pD_past 8, rI cy 9 (vD_past 8)), (pD_past 9, rI cy 9 (vD_past 9)), (pD_past 10, rI cy 9 (vD_past 10)), (pD_past 11, rI cy 9 (vD_past 11)), (pD_past 12, rI cy 9 (vD_past 12)), (pD_past 13, rI cy 9 (vD_past 13)), (pD_past 14, rI cy 9 (vD_past 14)), (pD_past 15, rI cy 9 (vD_past 15))]) (ws2 := (wX8_hold cy aN qN aH qH qD pD_past aH vN_13 vH vD vD_now vD_past)) (kRunV (As := [.int 1]) (rest := []) ⟨hx, hb, hml, hown, ht0⟩ (kX8_isDone l D cy _ aN qN aH vN (1 : Int32) r13 vN_13 hc13 _ rfl) (cwV 1 ht0 (gV wd692 wd693 wd694 wd57 wd695) rfl rfl rfl (by decide +kernel) ⟨Nat.le_of_ble_eq_true rfl, Nat.le_of_ble_eq_true rfl⟩) hK hN hP hD [0] rfl (by decide) 0 7 rfl rfl rfl hl.1 rfl (Nat.le_of_ble_eq_true rfl) dX8_hold_13 ⟨Nat.zero_le _, Nat.zero_le _⟩) hP hD hS hA [0] [1, 2, 3, 4, 5, 6, 7, 8, 9, 10, 11, 12, 13, 14, 15, 16, 17, 18, 19, 20] rfl rfl (by decide) (by decide) [20, 0, 1, 2, 3, 4, 5, 6, 7, 8, 9, 10, 11, 12, 13, 14, 15, 16, 17, 18, 19] (by decide) rfl rfl (fun H locs hP hD hS => ?_)
    obtain ⟨g16, hok⟩ := gd_some hok
    cases hok
    exact W.zret hx hb hr (isB_nar g16) (fun t ht hW => ⟨⟨_, (), rfl, rfl, by rw [ht]; exact hP, va_K.moved hW.alike hK, hD⟩, hS.F ht⟩) hS.2.2 dX8_hold_16
def wsX8_let : List Cond := .code yX8_let cX8_let 2 (some .boolean) :: W0
abbrev wX8_let (cy : Nat → ClassId) (aN : Nat) (qN : Nat → Nat) (aH : Nat) (qH : Nat → Nat) (qD : Nat → Nat) (pD_past : Nat → Nat) (fvN_5 : Nat) (vN : Nat → Int32) (vH : Nat → Int32) (vD : Nat → Int32) (vD_now : Nat → Int32) (vD_past : Nat → Nat → Int32) : va_W := [(aN, oX8 vN qN fvN_5), (aH, oX4 vH qH), (qN 1, oX1 vD qD), (qD 0, rI cy 9 vD_now), (qD 1, rR cy 16 (fun j => some (pD_past j))), (pD_past 0, rI cy 9 (vD_past 0)), (pD_past 1, rI cy 9 (vD_past 1)), (pD_past 2, rI cy 9 (vD_past 2)), (pD_past 3, rI cy 9 (vD_past 3)), (pD_past 4, rI cy 9 (vD_past 4)), (pD_past 5, rI cy 9 (vD_past 5)), (pD_past 6, rI cy 9 (vD_past 6)), (pD_past 7, rI cy 9 (vD_past 7)), (pD_past 8, rI cy 9 (vD_past 8)), (pD_past 9, rI cy 9 (vD_past 9)), (pD_past 10, rI cy 9 (vD_past 10)), (pD_past 11, rI cy 9 (vD_past 11)), (pD_past 12, rI cy 9 (vD_past 12)), (pD_past 13, rI cy 9 (vD_past 13)), (pD_past 14, rI cy 9 (vD_past 14)), (pD_past 15, rI cy 9 (vD_past 15))]
set_option maxHeartbeats 4000000 in
set_option maxRecDepth 100000 in
theorem kX8_let (l : Launch) (D : va_G) (cy : Nat → ClassId) (sz : Nat) (aN : Nat) (qN : Nat → Nat) (aH : Nat) (qH : Nat → Nat) (qD : Nat → Nat) (pD_past : Nat → Nat) (vN : Nat → Int32) (vH : Nat → Int32) (vD : Nat → Int32) (vD_now : Nat → Int32) (vD_past : Nat → Nat → Int32) (x1 : Int32) (zr : Int32) (z_vN : Nat → Int32) (z_vD : Nat → Int32) (z_vD_now : Nat → Int32) (z_vD_past : Nat → Nat → Int32) (hok : fX8_let vN vH vD vD_now vD_past x1 = some (zr, z_vN, z_vD, z_vD_now, z_vD_past)) (A : Nat → Prop) (hAe : va_A (wX8_let cy aN qN aH qH qD pD_past aH vN vH vD vD_now vD_past) sz = A) : Met l yX8_let wsX8_let ({ frames := 2, cells := 0, slots := 0, locals := 60 } : Room) (kPre D cy [.ref aN, .int x1] (wX8_let cy aN qN aH qH qD pD_past aH vN vH vD vD_now vD_past) sz) (kQi D cy zr A (wX8_let cy aN qN aH qH qD pD_past aH z_vN vH z_vD z_vD_now z_vD_past)) 0 0 A := by
  refine Met.ofW (cc := cX8_let) (maxL := 2) (ret := (some .boolean)) (by decide) rfl ?_
  intro p e s m args below meth c s₁ B hml hv
  obtain ⟨rfl, hsz, hP, hK, hD0, hN⟩ := hv
  have hx := B.exec
  have hb := B.bytes
  have hr := B.returns
  have ht0 : ∀ w ∈ W0, w.before _ s = true := fun w h => atoms_spec (ws := wsX8_let) B.pre w (List.mem_cons_of_mem _ h)
  have hown : s.vm.findClass RX8 = some m.cls := findClass_of_methodNamed B.named
  have hlocks := B.notSynchronized
  subst hsz
  have hD : va_D A (wX8_let cy aN qN aH qH qD pD_past aH vN vH vD vD_now vD_past) := by rw [← hAe]; exact hD0.self
  have hA : ∀ q : Nat, s.heap.size ≤ q → A q := fun q h => by rw [← hAe]; exact Or.inr h
  have hS : va_S A s.heap s.heap [] := va_S.rf
  have hl := lv_entry ([.ref aN, .int x1]) (n := 2) (Nat.le_of_ble_eq_true rfl)
  rw [lg_entry_eq]
  generalize (lg_sl ([.ref aN, .int x1]) ++ List.replicate (2 - (lg_sl ([.ref aN, .int x1])).length) Slot.unset).toArray = ls at hl ⊢
  have hl : lv_has ls 2 [(0, .ref aN), (1, .int x1)] := hl
  unfold fX8_let at hok
  obtain ⟨H, hH⟩ : ∃ H, H = s.heap := ⟨_, rfl⟩
  obtain ⟨locs, hlc⟩ : ∃ x : List Loc, x = [] := ⟨_, rfl⟩
  have hP : va_P D vwCl (wX8_let cy aN qN aH qH qD pD_past aH vN vH vD vD_now vD_past) H := by rw [hH]; exact hP
  have hS : va_S A s.heap H locs := by rw [hH, hlc]; exact hS
  rw [show W p l e _ s m _ below meth c s.heap [] = W p l e _ s m _ below meth c H locs from by rw [hH, hlc]]
  refine lv_aload_n hx hb dX8_let_0 rfl (lv_at hl 0 rfl) ?_
  refine va_get (D := D) (ci := 7) (v := .ref aH) (C := RX8) (T := TX8) (N := 9) hx hb ht0 niX8 hown hK hP 0 rfl rfl 5 (by decide) (ht0 _ wd522) (fun _ h9 => h9) rfl dX8_let_1 ?_
  refine lv_iload_n hx hb dX8_let_4 rfl (lv_at hl 1 rfl) ?_
  obtain ⟨r5, hc5, hok⟩ := k_bind hok
  refine kCi (wc := (wX4_hasThing cy aH qH vH)) (wc2 := (wX4_hasThing cy aH qH vH)) (wr := [(aN, oX8 vN qN aH), (qN 1, oX1 vD qD), (qD 0, rI cy 9 vD_now), (qD 1, rR cy 16 (fun j => some (pD_past j))), (pD_past 0, rI cy 9 (vD_past 0)), (pD_past 1, rI cy 9 (vD_past 1)), (pD_past 2, rI cy 9 (vD_past 2)), (pD_past 3, rI cy 9 (vD_past 3)), (pD_past 4, rI cy 9 (vD_past 4)), (pD_past 5, rI cy 9 (vD_past 5)), (pD_past 6, rI cy 9 (vD_past 6)), (pD_past 7, rI cy 9 (vD_past 7)), (pD_past 8, rI cy 9 (vD_past 8)), (pD_past 9, rI cy 9 (vD_past 9)), (pD_past 10, rI cy 9 (vD_past 10)), (pD_past 11, rI cy 9 (vD_past 11)), (pD_past 12, rI cy 9 (vD_past 12)), (pD_past 13, rI cy 9 (vD_past 13)), (pD_past 14, rI cy 9 (vD_past 14)), (pD_past 15, rI cy 9 (vD_past 15))]) (ws2 := (wX8_let cy aN qN aH qH qD pD_past aH vN vH vD vD_now vD_past)) (kRunV (As := [.int x1]) (rest := []) ⟨hx, hb, hml, hown, ht0⟩ (kX4_hasThing l D cy _ aH qH vH x1 r5 hc5 _ rfl) (cwV 1 ht0 (gV wd551 wd552 wd553 wd9 wd554) rfl rfl rfl (by decide +kernel) ⟨Nat.le_of_ble_eq_true rfl, Nat.le_of_ble_eq_true rfl⟩) hK hN hP hD [1] rfl (by decide) 1 3 rfl rfl rfl hl.1 rfl (Nat.le_of_ble_eq_true rfl) dX8_let_5 ⟨Nat.zero_le _, Nat.zero_le _⟩) hP hD hS hA [1] [0, 2, 3, 4, 5, 6, 7, 8, 9, 10, 11, 12, 13, 14, 15, 16, 17, 18, 19, 20] rfl rfl (by decide) (by decide) [0, 20, 1, 2, 3, 4, 5, 6, 7, 8, 9, 10, 11, 12, 13, 14, 15, 16, 17, 18, 19] (by decide) rfl rfl (fun H locs hP hD hS => ?_)
  refine lv_if_ne (tgt := 17) hx hb dX8_let_8 (by decide) (fun c8 => ?_) (fun c8 => ?_)
  · have hok := k_neg c8 hok
    refine lv_aload_n hx hb dX8_let_17 rfl (lv_at hl 0 rfl) ?_
    refine va_get (D := D) (ci := 7) (v := .ref (qN 1)) (C := RX8) (T := TX8) (N := 9) hx hb ht0 niX8 hown hK hP 0 rfl rfl 1 (by decide) (ht0 _ wd527) (fun _ h9 => h9) rfl dX8_let_18 ?_
    refine lv_iload_n hx hb dX8_let_21 rfl (lv_at hl 1 rfl) ?_
    obtain ⟨r22, hc22, hok⟩ := k_bind hok
    refine kCi (wc := (wX1_isHeld cy (qN 1) qD vD vD_now)) (wc2 := (wX1_isHeld cy (qN 1) qD vD vD_now)) (wr := [(aN, oX8 vN qN aH), (aH, oX4 vH qH), (qD 1, rR cy 16 (fun j => some (pD_past j))), (pD_past 0, rI cy 9 (vD_past 0)), (pD_past 1, rI cy 9 (vD_past 1)), (pD_past 2, rI cy 9 (vD_past 2)), (pD_past 3, rI cy 9 (vD_past 3)), (pD_past 4, rI cy 9 (vD_past 4)), (pD_past 5, rI cy 9 (vD_past 5)), (pD_past 6, rI cy 9 (vD_past 6)), (pD_past 7, rI cy 9 (vD_past 7)), (pD_past 8, rI cy 9 (vD_past 8)), (pD_past 9, rI cy 9 (vD_past 9)), (pD_past 10, rI cy 9 (vD_past 10)), (pD_past 11, rI cy 9 (vD_past 11)), (pD_past 12, rI cy 9 (vD_past 12)), (pD_past 13, rI cy 9 (vD_past 13)), (pD_past 14, rI cy 9 (vD_past 14)), (pD_past 15, rI cy 9 (vD_past 15))]) (ws2 := (wX8_let cy aN qN aH qH qD pD_past aH vN vH vD vD_now vD_past)) (kRunV (As := [.int x1]) (rest := []) ⟨hx, hb, hml, hown, ht0⟩ (kX1_isHeld l D cy _ (qN 1) qD vD vD_now x1 r22 hc22 _ rfl) (cwV 1 ht0 (gV wd565 wd72 wd73 wd74 wd75) rfl rfl rfl (by decide +kernel) ⟨Nat.le_of_ble_eq_true rfl, Nat.le_of_ble_eq_true rfl⟩) hK hN hP hD [2, 3] rfl (by decide) 2 1 rfl rfl rfl hl.1 rfl (Nat.le_of_ble_eq_true rfl) dX8_let_22 ⟨Nat.zero_le _, Nat.zero_le _⟩) hP hD hS hA [2, 3] [0, 1, 4, 5, 6, 7, 8, 9, 10, 11, 12, 13, 14, 15, 16, 17, 18, 19, 20] rfl rfl (by decide) (by decide) [0, 1, 19, 20, 2, 3, 4, 5, 6, 7, 8, 9, 10, 11, 12, 13, 14, 15, 16, 17, 18] (by decide) rfl rfl (fun H locs hP hD hS => ?_)
    refine lv_if_ne (tgt := 34) hx hb dX8_let_25 (by decide) (fun c25 => ?_) (fun c25 => ?_)
    · have hok := k_neg c25 hok
      refine lv_aload_n hx hb dX8_let_34 rfl (lv_at hl 0 rfl) ?_
      refine va_get (D := D) (ci := 7) (v := .ref (qN 1)) (C := RX8) (T := TX8) (N := 9) hx hb ht0 niX8 hown hK hP 0 rfl rfl 1 (by decide) (ht0 _ wd527) (fun _ h9 => h9) rfl dX8_let_35 ?_
      obtain ⟨⟨vD_38, vD_past_38⟩, hc38, hok⟩ := k_bind hok
      try dsimp only at hok
      refine kCv (wc := (wX1_keep cy (qN 1) qD pD_past vD vD_past vD_now)) (wc2 := (wX1_keep cy (qN 1) qD pD_past vD_38 vD_past_38 vD_now)) (wr := [(aN, oX8 vN qN aH), (aH, oX4 vH qH)]) (ws2 := (wX8_let cy aN qN aH qH qD pD_past aH vN vH vD_38 vD_now vD_past_38)) (kRunV (As := []) (rest := []) ⟨hx, hb, hml, hown, ht0⟩ (kX1_keep l D cy _ (qN 1) qD pD_past vD vD_past vD_now vD_38 vD_past_38 hc38 _ rfl) (cwV 0 ht0 (gV wd684 wd685 wd686 wd74 wd687) rfl rfl rfl (by decide +kernel) ⟨Nat.le_of_ble_eq_true rfl, Nat.le_of_ble_eq_true rfl⟩) hK hN hP hD [2, 4, 5, 6, 7, 8, 9, 10, 11, 12, 13, 14, 15, 16, 17, 18, 19, 20, 3] rfl (by decide) 2 1 rfl rfl rfl hl.1 rfl (Nat.le_of_ble_eq_true rfl) dX8_let_38 ⟨Nat.zero_le _, Nat.zero_le _⟩) hP hD hS hA [2, 4, 5, 6, 7, 8, 9, 10, 11, 12, 13, 14, 15, 16, 17, 18, 19, 20, 3] [0, 1] rfl rfl (by decide) (by decide) [0, 1, 2, 20, 3, 4, 5, 6, 7, 8, 9, 10, 11, 12, 13, 14, 15, 16, 17, 18, 19] (by decide) rfl rfl (fun H locs hP hD hS => ?_)
      refine lv_aload_n hx hb dX8_let_41 rfl (lv_at hl 0 rfl) ?_
      refine va_get (D := D) (ci := 7) (v := .ref (qN 1)) (C := RX8) (T := TX8) (N := 9) hx hb ht0 niX8 hown hK hP 0 rfl rfl 1 (by decide) (ht0 _ wd527) (fun _ h9 => h9) rfl dX8_let_42 ?_
      refine lv_iload_n hx hb dX8_let_45 rfl (lv_at hl 1 rfl) ?_
      obtain ⟨vD_now_46, hc46, hok⟩ := k_bind hok
      refine kCv (wc := (wX1_turnHeld cy (qN 1) qD vD_38 vD_now)) (wc2 := (wX1_turnHeld cy (qN 1) qD vD_38 vD_now_46)) (wr := [(aN, oX8 vN qN aH), (aH, oX4 vH qH), (qD 1, rR cy 16 (fun j => some (pD_past j))), (pD_past 0, rI cy 9 (vD_past_38 0)), (pD_past 1, rI cy 9 (vD_past_38 1)), (pD_past 2, rI cy 9 (vD_past_38 2)), (pD_past 3, rI cy 9 (vD_past_38 3)), (pD_past 4, rI cy 9 (vD_past_38 4)), (pD_past 5, rI cy 9 (vD_past_38 5)), (pD_past 6, rI cy 9 (vD_past_38 6)), (pD_past 7, rI cy 9 (vD_past_38 7)), (pD_past 8, rI cy 9 (vD_past_38 8)), (pD_past 9, rI cy 9 (vD_past_38 9)), (pD_past 10, rI cy 9 (vD_past_38 10)), (pD_past 11, rI cy 9 (vD_past_38 11)), (pD_past 12, rI cy 9 (vD_past_38 12)), (pD_past 13, rI cy 9 (vD_past_38 13)), (pD_past 14, rI cy 9 (vD_past_38 14)), (pD_past 15, rI cy 9 (vD_past_38 15))]) (ws2 := (wX8_let cy aN qN aH qH qD pD_past aH vN vH vD_38 vD_now_46 vD_past_38)) (kRunV (As := [.int x1]) (rest := []) ⟨hx, hb, hml, hown, ht0⟩ (kX1_turnHeld l D cy _ (qN 1) qD vD_38 vD_now x1 vD_now_46 hc46 _ rfl) (cwV 1 ht0 (gV wd688 wd689 wd690 wd74 wd691) rfl rfl rfl (by decide +kernel) ⟨Nat.le_of_ble_eq_true rfl, Nat.le_of_ble_eq_true rfl⟩) hK hN hP hD [2, 3] rfl (by decide) 2 1 rfl rfl rfl hl.1 rfl (Nat.le_of_ble_eq_true rfl) dX8_let_46 ⟨Nat.zero_le _, Nat.zero_le _⟩) hP hD hS hA [2, 3] [0, 1, 4, 5, 6, 7, 8, 9, 10, 11, 12, 13, 14, 15, 16, 17, 18, 19, 20] rfl rfl (by decide) (by decide) [0, 1, 19, 20, 2, 3, 4, 5, 6, 7, 8, 9, 10, 11, 12, 13, 14, 15, 16, 17, 18] (by decide) rfl rfl (fun H locs hP hD hS => ?_)
      refine lv_aload_n hx hb dX8_let_49 rfl (lv_at hl 0 rfl) ?_
      refine lv_iconst (v := 0) hx hb dX8_let_50 (by decide) ?_
      obtain ⟨⟨r51, vN_51⟩, hc51, hok⟩ := k_bind hok
      try dsimp only at hok
      refine kCi (wc := (wX8_isDone cy aN qN aH aH vN)) (wc2 := (wX8_isDone cy aN qN aH aH vN_51)) (wr := [(aH, oX4 vH qH), (qN 1, oX1 vD_38 qD), (qD 0, rI cy 9 vD_now_46), (qD 1, rR cy 16 (fun j => some (pD_past j))), (pD_past 0, rI cy 9 (vD_past_38 0)), (pD_past 1, rI cy 9 (vD_past_38 1)), (pD_past 2, rI cy 9 (vD_past_38 2)), (pD_past 3, rI cy 9 (vD_past_38 3)), (pD_past 4, rI cy 9 (vD_past_38 4)), (pD_past 5, rI cy 9 (vD_past_38 5)), (pD_past 6, rI cy 9 (vD_past_38 6)), (pD_past 7, rI cy 9 (vD_past_38 7)), (pD_past 8, rI cy 9 (vD_past_38 8)), (pD_past 9, rI cy 9 (vD_past_38 9)), (pD_past 10, rI cy 9 (vD_past_38 10)), (pD_past 11, rI cy 9 (vD_past_38 11)), (pD_past 12, rI cy 9 (vD_past_38 12)), (pD_past 13, rI cy 9 (vD_past_38 13)), (pD_past 14, rI cy 9 (vD_past_38 14)), (pD_past 15, rI cy 9 (vD_past_38 15))]) (ws2 := (wX8_let cy aN qN aH qH qD pD_past aH vN_51 vH vD_38 vD_now_46 vD_past_38)) (kRunV (As := [.int 0]) (rest := []) ⟨hx, hb, hml, hown, ht0⟩ (kX8_isDone l D cy _ aN qN aH vN (0 : Int32) r51 vN_51 hc51 _ rfl) (cwV 1 ht0 (gV wd692 wd693 wd694 wd57 wd695) rfl rfl rfl (by decide +kernel) ⟨Nat.le_of_ble_eq_true rfl, Nat.le_of_ble_eq_true rfl⟩) hK hN hP hD [0] rfl (by decide) 0 7 rfl rfl rfl hl.1 rfl (Nat.le_of_ble_eq_true rfl) dX8_let_51 ⟨Nat.zero_le _, Nat.zero_le _⟩) hP hD hS hA [0] [1, 2, 3, 4, 5, 6, 7, 8, 9, 10, 11, 12, 13, 14, 15, 16, 17, 18, 19, 20] rfl rfl (by decide) (by decide) [20, 0, 1, 2, 3, 4, 5, 6, 7, 8, 9, 10, 11, 12, 13, 14, 15, 16, 17, 18, 19] (by decide) rfl rfl (fun H locs hP hD hS => ?_)
      obtain ⟨g54, hok⟩ := gd_some hok
      cases hok
      exact W.zret hx hb hr (isB_nar g54) (fun t ht hW => ⟨⟨_, (), rfl, rfl, by rw [ht]; exact hP, va_K.moved hW.alike hK, hD⟩, hS.F ht⟩) hS.2.2 dX8_let_54
    · have hok := k_pos c25 hok
      refine lv_aload_n hx hb dX8_let_28 rfl (lv_at hl 0 rfl) ?_
      refine lv_iconst (v := 5) hx hb dX8_let_29 (by decide) ?_
      obtain ⟨⟨r30, vN_30⟩, hc30, hok⟩ := k_bind hok
      try dsimp only at hok
      refine kCi (wc := (wX8_isDone cy aN qN aH aH vN)) (wc2 := (wX8_isDone cy aN qN aH aH vN_30)) (wr := [(aH, oX4 vH qH), (qN 1, oX1 vD qD), (qD 0, rI cy 9 vD_now), (qD 1, rR cy 16 (fun j => some (pD_past j))), (pD_past 0, rI cy 9 (vD_past 0)), (pD_past 1, rI cy 9 (vD_past 1)), (pD_past 2, rI cy 9 (vD_past 2)), (pD_past 3, rI cy 9 (vD_past 3)), (pD_past 4, rI cy 9 (vD_past 4)), (pD_past 5, rI cy 9 (vD_past 5)), (pD_past 6, rI cy 9 (vD_past 6)), (pD_past 7, rI cy 9 (vD_past 7)), (pD_past 8, rI cy 9 (vD_past 8)), (pD_past 9, rI cy 9 (vD_past 9)), (pD_past 10, rI cy 9 (vD_past 10)), (pD_past 11, rI cy 9 (vD_past 11)), (pD_past 12, rI cy 9 (vD_past 12)), (pD_past 13, rI cy 9 (vD_past 13)), (pD_past 14, rI cy 9 (vD_past 14)), (pD_past 15, rI cy 9 (vD_past 15))]) (ws2 := (wX8_let cy aN qN aH qH qD pD_past aH vN_30 vH vD vD_now vD_past)) (kRunV (As := [.int 5]) (rest := []) ⟨hx, hb, hml, hown, ht0⟩ (kX8_isDone l D cy _ aN qN aH vN (5 : Int32) r30 vN_30 hc30 _ rfl) (cwV 1 ht0 (gV wd692 wd693 wd694 wd57 wd695) rfl rfl rfl (by decide +kernel) ⟨Nat.le_of_ble_eq_true rfl, Nat.le_of_ble_eq_true rfl⟩) hK hN hP hD [0] rfl (by decide) 0 7 rfl rfl rfl hl.1 rfl (Nat.le_of_ble_eq_true rfl) dX8_let_30 ⟨Nat.zero_le _, Nat.zero_le _⟩) hP hD hS hA [0] [1, 2, 3, 4, 5, 6, 7, 8, 9, 10, 11, 12, 13, 14, 15, 16, 17, 18, 19, 20] rfl rfl (by decide) (by decide) [20, 0, 1, 2, 3, 4, 5, 6, 7, 8, 9, 10, 11, 12, 13, 14, 15, 16, 17, 18, 19] (by decide) rfl rfl (fun H locs hP hD hS => ?_)
      obtain ⟨g33, hok⟩ := gd_some hok
      cases hok
      exact W.zret hx hb hr (isB_nar g33) (fun t ht hW => ⟨⟨_, (), rfl, rfl, by rw [ht]; exact hP, va_K.moved hW.alike hK, hD⟩, hS.F ht⟩) hS.2.2 dX8_let_33
  · have hok := k_pos c8 hok
    refine lv_aload_n hx hb dX8_let_11 rfl (lv_at hl 0 rfl) ?_
    refine lv_iconst (v := 1) hx hb dX8_let_12 (by decide) ?_
    obtain ⟨⟨r13, vN_13⟩, hc13, hok⟩ := k_bind hok
    try dsimp only at hok
    refine kCi (wc := (wX8_isDone cy aN qN aH aH vN)) (wc2 := (wX8_isDone cy aN qN aH aH vN_13)) (wr := [(aH, oX4 vH qH), (qN 1, oX1 vD qD), (qD 0, rI cy 9 vD_now), (qD 1, rR cy 16 (fun j => some (pD_past j))), (pD_past 0, rI cy 9 (vD_past 0)), (pD_past 1, rI cy 9 (vD_past 1)), (pD_past 2, rI cy 9 (vD_past 2)), (pD_past 3, rI cy 9 (vD_past 3)), (pD_past 4, rI cy 9 (vD_past 4)), (pD_past 5, rI cy 9 (vD_past 5)), (pD_past 6, rI cy 9 (vD_past 6)), (pD_past 7, rI cy 9 (vD_past 7)), (pD_past 8, rI cy 9 (vD_past 8)), (pD_past 9, rI cy 9 (vD_past 9)), (pD_past 10, rI cy 9 (vD_past 10)), (pD_past 11, rI cy 9 (vD_past 11)), (pD_past 12, rI cy 9 (vD_past 12)), (pD_past 13, rI cy 9 (vD_past 13)), (pD_past 14, rI cy 9 (vD_past 14)), (pD_past 15, rI cy 9 (vD_past 15))]) (ws2 := (wX8_let cy aN qN aH qH qD pD_past aH vN_13 vH vD vD_now vD_past)) (kRunV (As := [.int 1]) (rest := []) ⟨hx, hb, hml, hown, ht0⟩ (kX8_isDone l D cy _ aN qN aH vN (1 : Int32) r13 vN_13 hc13 _ rfl) (cwV 1 ht0 (gV wd692 wd693 wd694 wd57 wd695) rfl rfl rfl (by decide +kernel) ⟨Nat.le_of_ble_eq_true rfl, Nat.le_of_ble_eq_true rfl⟩) hK hN hP hD [0] rfl (by decide) 0 7 rfl rfl rfl hl.1 rfl (Nat.le_of_ble_eq_true rfl) dX8_let_13 ⟨Nat.zero_le _, Nat.zero_le _⟩) hP hD hS hA [0] [1, 2, 3, 4, 5, 6, 7, 8, 9, 10, 11, 12, 13, 14, 15, 16, 17, 18, 19, 20] rfl rfl (by decide) (by decide) [20, 0, 1, 2, 3, 4, 5, 6, 7, 8, 9, 10, 11, 12, 13, 14, 15, 16, 17, 18, 19] (by decide) rfl rfl (fun H locs hP hD hS => ?_)
    obtain ⟨g16, hok⟩ := gd_some hok
    cases hok
    exact W.zret hx hb hr (isB_nar g16) (fun t ht hW => ⟨⟨_, (), rfl, rfl, by rw [ht]; exact hP, va_K.moved hW.alike hK, hD⟩, hS.F ht⟩) hS.2.2 dX8_let_16
def wsX8_put : List Cond := .code yX8_put cX8_put 5 (some .boolean) :: W0
abbrev wX8_put (cy : Nat → ClassId) (aN : Nat) (qN : Nat → Nat) (aH : Nat) (qH : Nat → Nat) (qD : Nat → Nat) (pD_past : Nat → Nat) (fvN_5 : Nat) (vN : Nat → Int32) (vH : Nat → Int32) (vH_places : Nat → Int32) (vD : Nat → Int32) (vD_now : Nat → Int32) (vD_past : Nat → Nat → Int32) : va_W := [(aN, oX8 vN qN fvN_5), (aH, oX4 vH qH), (qH 9, rI cy 4 vH_places), (qN 1, oX1 vD qD), (qD 0, rI cy 9 vD_now), (qD 1, rR cy 16 (fun j => some (pD_past j))), (pD_past 0, rI cy 9 (vD_past 0)), (pD_past 1, rI cy 9 (vD_past 1)), (pD_past 2, rI cy 9 (vD_past 2)), (pD_past 3, rI cy 9 (vD_past 3)), (pD_past 4, rI cy 9 (vD_past 4)), (pD_past 5, rI cy 9 (vD_past 5)), (pD_past 6, rI cy 9 (vD_past 6)), (pD_past 7, rI cy 9 (vD_past 7)), (pD_past 8, rI cy 9 (vD_past 8)), (pD_past 9, rI cy 9 (vD_past 9)), (pD_past 10, rI cy 9 (vD_past 10)), (pD_past 11, rI cy 9 (vD_past 11)), (pD_past 12, rI cy 9 (vD_past 12)), (pD_past 13, rI cy 9 (vD_past 13)), (pD_past 14, rI cy 9 (vD_past 14)), (pD_past 15, rI cy 9 (vD_past 15))]
set_option maxHeartbeats 4000000 in
set_option maxRecDepth 100000 in
theorem kX8_put (l : Launch) (D : va_G) (cy : Nat → ClassId) (sz : Nat) (aN : Nat) (qN : Nat → Nat) (aH : Nat) (qH : Nat → Nat) (qD : Nat → Nat) (pD_past : Nat → Nat) (vN : Nat → Int32) (vH : Nat → Int32) (vH_places : Nat → Int32) (vD : Nat → Int32) (vD_now : Nat → Int32) (vD_past : Nat → Nat → Int32) (x1 : Int32) (x2 : Int32) (x3 : Int32) (zr : Int32) (z_vN : Nat → Int32) (z_vD : Nat → Int32) (z_vD_now : Nat → Int32) (z_vD_past : Nat → Nat → Int32) (hok : fX8_put vN vH vH_places vD vD_now vD_past x1 x2 x3 = some (zr, z_vN, z_vD, z_vD_now, z_vD_past)) (A : Nat → Prop) (hAe : va_A (wX8_put cy aN qN aH qH qD pD_past aH vN vH vH_places vD vD_now vD_past) sz = A) : Met l yX8_put wsX8_put ({ frames := 2, cells := 0, slots := 0, locals := 60 } : Room) (kPre D cy [.ref aN, .int x1, .int x2, .int x3] (wX8_put cy aN qN aH qH qD pD_past aH vN vH vH_places vD vD_now vD_past) sz) (kQi D cy zr A (wX8_put cy aN qN aH qH qD pD_past aH z_vN vH vH_places z_vD z_vD_now z_vD_past)) 0 0 A := by
  refine Met.ofW (cc := cX8_put) (maxL := 5) (ret := (some .boolean)) (by decide) rfl ?_
  intro p e s m args below meth c s₁ B hml hv
  obtain ⟨rfl, hsz, hP, hK, hD0, hN⟩ := hv
  have hx := B.exec
  have hb := B.bytes
  have hr := B.returns
  have ht0 : ∀ w ∈ W0, w.before _ s = true := fun w h => atoms_spec (ws := wsX8_put) B.pre w (List.mem_cons_of_mem _ h)
  have hown : s.vm.findClass RX8 = some m.cls := findClass_of_methodNamed B.named
  have hlocks := B.notSynchronized
  subst hsz
  have hD : va_D A (wX8_put cy aN qN aH qH qD pD_past aH vN vH vH_places vD vD_now vD_past) := by rw [← hAe]; exact hD0.self
  have hA : ∀ q : Nat, s.heap.size ≤ q → A q := fun q h => by rw [← hAe]; exact Or.inr h
  have hS : va_S A s.heap s.heap [] := va_S.rf
  have hl := lv_entry ([.ref aN, .int x1, .int x2, .int x3]) (n := 5) (Nat.le_of_ble_eq_true rfl)
  rw [lg_entry_eq]
  generalize (lg_sl ([.ref aN, .int x1, .int x2, .int x3]) ++ List.replicate (5 - (lg_sl ([.ref aN, .int x1, .int x2, .int x3])).length) Slot.unset).toArray = ls at hl ⊢
  have hl : lv_has ls 5 [(0, .ref aN), (1, .int x1), (2, .int x2), (3, .int x3)] := hl
  generalize hQe : MQ below (kQi D cy zr A (wX8_put cy aN qN aH qH qD pD_past aH z_vN vH vH_places z_vD z_vD_now z_vD_past)) ([.ref aN, .int x1, .int x2, .int x3] : List Value).toArray s 0 0 A = Q
  have J66 : ∀ (H : Heap) (locs : List Loc) (ls : Array Slot), va_P D vwCl (wX8_put cy aN qN aH qH qD pD_past aH vN vH vH_places vD vD_now vD_past) H → va_D A (wX8_put cy aN qN aH qH qD pD_past aH vN vH vH_places vD vD_now vD_past) → va_S A s.heap H locs → lv_has ls 5 [(0, .ref aN)] → fX8_put_J66 vN vD vD_now vD_past = some (zr, z_vN, z_vD, z_vD_now, z_vD_past) → W p l e ({ frames := 2, cells := 0, slots := 0, locals := 60 } : Room) s m ([.ref aN, .int x1, .int x2, .int x3] : List Value).toArray below meth c H locs 0 0 Q (F0 m 66 ls []) := by
    intro  H locs ls hP hD hS hl hok
    unfold fX8_put_J66 at hok
    refine lv_aload_n hx hb dX8_put_66 rfl (lv_at hl 0 rfl) ?_
    refine lv_iconst (v := 5) hx hb dX8_put_67 (by decide) ?_
    obtain ⟨⟨r68, vN_68⟩, hc68, hok⟩ := k_bind hok
    try dsimp only at hok
    refine kCi (wc := (wX8_isDone cy aN qN aH aH vN)) (wc2 := (wX8_isDone cy aN qN aH aH vN_68)) (wr := [(aH, oX4 vH qH), (qH 9, rI cy 4 vH_places), (qN 1, oX1 vD qD), (qD 0, rI cy 9 vD_now), (qD 1, rR cy 16 (fun j => some (pD_past j))), (pD_past 0, rI cy 9 (vD_past 0)), (pD_past 1, rI cy 9 (vD_past 1)), (pD_past 2, rI cy 9 (vD_past 2)), (pD_past 3, rI cy 9 (vD_past 3)), (pD_past 4, rI cy 9 (vD_past 4)), (pD_past 5, rI cy 9 (vD_past 5)), (pD_past 6, rI cy 9 (vD_past 6)), (pD_past 7, rI cy 9 (vD_past 7)), (pD_past 8, rI cy 9 (vD_past 8)), (pD_past 9, rI cy 9 (vD_past 9)), (pD_past 10, rI cy 9 (vD_past 10)), (pD_past 11, rI cy 9 (vD_past 11)), (pD_past 12, rI cy 9 (vD_past 12)), (pD_past 13, rI cy 9 (vD_past 13)), (pD_past 14, rI cy 9 (vD_past 14)), (pD_past 15, rI cy 9 (vD_past 15))]) (ws2 := (wX8_put cy aN qN aH qH qD pD_past aH vN_68 vH vH_places vD vD_now vD_past)) (kRunV (As := [.int 5]) (rest := []) ⟨hx, hb, hml, hown, ht0⟩ (kX8_isDone l D cy _ aN qN aH vN (5 : Int32) r68 vN_68 hc68 _ rfl) (cwV 1 ht0 (gV wd692 wd693 wd694 wd57 wd695) rfl rfl rfl (by decide +kernel) ⟨Nat.le_of_ble_eq_true rfl, Nat.le_of_ble_eq_true rfl⟩) hK hN hP hD [0] rfl (by decide) 0 7 rfl rfl rfl hl.1 rfl (Nat.le_of_ble_eq_true rfl) dX8_put_68 ⟨Nat.zero_le _, Nat.zero_le _⟩) hP hD hS hA [0] [1, 2, 3, 4, 5, 6, 7, 8, 9, 10, 11, 12, 13, 14, 15, 16, 17, 18, 19, 20, 21] rfl rfl (by decide) (by decide) [21, 0, 1, 2, 3, 4, 5, 6, 7, 8, 9, 10, 11, 12, 13, 14, 15, 16, 17, 18, 19, 20] (by decide) rfl rfl (fun H locs hP hD hS => ?_)
    obtain ⟨g71, hok⟩ := gd_some hok
    cases hok
    subst hQe; exact W.zret hx hb hr (isB_nar g71) (fun t ht hW => ⟨⟨_, (), rfl, rfl, by rw [ht]; exact hP, va_K.moved hW.alike hK, hD⟩, hS.F ht⟩) hS.2.2 dX8_put_71
  have J23 : ∀ (H : Heap) (locs : List Loc) (ls : Array Slot), va_P D vwCl (wX8_put cy aN qN aH qH qD pD_past aH vN vH vH_places vD vD_now vD_past) H → va_D A (wX8_put cy aN qN aH qH qD pD_past aH vN vH vH_places vD vD_now vD_past) → va_S A s.heap H locs → lv_has ls 5 [(0, .ref aN)] → fX8_put_J23 vN vD vD_now vD_past = some (zr, z_vN, z_vD, z_vD_now, z_vD_past) → W p l e ({ frames := 2, cells := 0, slots := 0, locals := 60 } : Room) s m ([.ref aN, .int x1, .int x2, .int x3] : List Value).toArray below meth c H locs 0 0 Q (F0 m 23 ls []) := by
    intro  H locs ls hP hD hS hl hok
    unfold fX8_put_J23 at hok
    refine lv_aload_n hx hb dX8_put_23 rfl (lv_at hl 0 rfl) ?_
    refine lv_iconst (v := 1) hx hb dX8_put_24 (by decide) ?_
    obtain ⟨⟨r25, vN_25⟩, hc25, hok⟩ := k_bind hok
    try dsimp only at hok
    refine kCi (wc := (wX8_isDone cy aN qN aH aH vN)) (wc2 := (wX8_isDone cy aN qN aH aH vN_25)) (wr := [(aH, oX4 vH qH), (qH 9, rI cy 4 vH_places), (qN 1, oX1 vD qD), (qD 0, rI cy 9 vD_now), (qD 1, rR cy 16 (fun j => some (pD_past j))), (pD_past 0, rI cy 9 (vD_past 0)), (pD_past 1, rI cy 9 (vD_past 1)), (pD_past 2, rI cy 9 (vD_past 2)), (pD_past 3, rI cy 9 (vD_past 3)), (pD_past 4, rI cy 9 (vD_past 4)), (pD_past 5, rI cy 9 (vD_past 5)), (pD_past 6, rI cy 9 (vD_past 6)), (pD_past 7, rI cy 9 (vD_past 7)), (pD_past 8, rI cy 9 (vD_past 8)), (pD_past 9, rI cy 9 (vD_past 9)), (pD_past 10, rI cy 9 (vD_past 10)), (pD_past 11, rI cy 9 (vD_past 11)), (pD_past 12, rI cy 9 (vD_past 12)), (pD_past 13, rI cy 9 (vD_past 13)), (pD_past 14, rI cy 9 (vD_past 14)), (pD_past 15, rI cy 9 (vD_past 15))]) (ws2 := (wX8_put cy aN qN aH qH qD pD_past aH vN_25 vH vH_places vD vD_now vD_past)) (kRunV (As := [.int 1]) (rest := []) ⟨hx, hb, hml, hown, ht0⟩ (kX8_isDone l D cy _ aN qN aH vN (1 : Int32) r25 vN_25 hc25 _ rfl) (cwV 1 ht0 (gV wd692 wd693 wd694 wd57 wd695) rfl rfl rfl (by decide +kernel) ⟨Nat.le_of_ble_eq_true rfl, Nat.le_of_ble_eq_true rfl⟩) hK hN hP hD [0] rfl (by decide) 0 7 rfl rfl rfl hl.1 rfl (Nat.le_of_ble_eq_true rfl) dX8_put_25 ⟨Nat.zero_le _, Nat.zero_le _⟩) hP hD hS hA [0] [1, 2, 3, 4, 5, 6, 7, 8, 9, 10, 11, 12, 13, 14, 15, 16, 17, 18, 19, 20, 21] rfl rfl (by decide) (by decide) [21, 0, 1, 2, 3, 4, 5, 6, 7, 8, 9, 10, 11, 12, 13, 14, 15, 16, 17, 18, 19, 20] (by decide) rfl rfl (fun H locs hP hD hS => ?_)
    obtain ⟨g28, hok⟩ := gd_some hok
    cases hok
    subst hQe; exact W.zret hx hb hr (isB_nar g28) (fun t ht hW => ⟨⟨_, (), rfl, rfl, by rw [ht]; exact hP, va_K.moved hW.alike hK, hD⟩, hS.F ht⟩) hS.2.2 dX8_put_28
  unfold fX8_put at hok
  obtain ⟨H, hH⟩ : ∃ H, H = s.heap := ⟨_, rfl⟩
  obtain ⟨locs, hlc⟩ : ∃ x : List Loc, x = [] := ⟨_, rfl⟩
  have hP : va_P D vwCl (wX8_put cy aN qN aH qH qD pD_past aH vN vH vH_places vD vD_now vD_past) H := by rw [hH]; exact hP
  have hS : va_S A s.heap H locs := by rw [hH, hlc]; exact hS
  rw [show W p l e _ s m _ below meth c s.heap [] = W p l e _ s m _ below meth c H locs from by rw [hH, hlc]]
  refine lv_aload_n hx hb dX8_put_0 rfl (lv_at hl 0 rfl) ?_
  refine va_get (D := D) (ci := 7) (v := .ref aH) (C := RX8) (T := TX8) (N := 9) hx hb ht0 niX8 hown hK hP 0 rfl rfl 5 (by decide) (ht0 _ wd522) (fun _ h9 => h9) rfl dX8_put_1 ?_
  refine lv_iload_n hx hb dX8_put_4 rfl (lv_at hl 1 rfl) ?_
  obtain ⟨r5, hc5, hok⟩ := k_bind hok
  refine kCi (wc := (wX4_hasThing cy aH qH vH)) (wc2 := (wX4_hasThing cy aH qH vH)) (wr := [(aN, oX8 vN qN aH), (qH 9, rI cy 4 vH_places), (qN 1, oX1 vD qD), (qD 0, rI cy 9 vD_now), (qD 1, rR cy 16 (fun j => some (pD_past j))), (pD_past 0, rI cy 9 (vD_past 0)), (pD_past 1, rI cy 9 (vD_past 1)), (pD_past 2, rI cy 9 (vD_past 2)), (pD_past 3, rI cy 9 (vD_past 3)), (pD_past 4, rI cy 9 (vD_past 4)), (pD_past 5, rI cy 9 (vD_past 5)), (pD_past 6, rI cy 9 (vD_past 6)), (pD_past 7, rI cy 9 (vD_past 7)), (pD_past 8, rI cy 9 (vD_past 8)), (pD_past 9, rI cy 9 (vD_past 9)), (pD_past 10, rI cy 9 (vD_past 10)), (pD_past 11, rI cy 9 (vD_past 11)), (pD_past 12, rI cy 9 (vD_past 12)), (pD_past 13, rI cy 9 (vD_past 13)), (pD_past 14, rI cy 9 (vD_past 14)), (pD_past 15, rI cy 9 (vD_past 15))]) (ws2 := (wX8_put cy aN qN aH qH qD pD_past aH vN vH vH_places vD vD_now vD_past)) (kRunV (As := [.int x1]) (rest := []) ⟨hx, hb, hml, hown, ht0⟩ (kX4_hasThing l D cy _ aH qH vH x1 r5 hc5 _ rfl) (cwV 1 ht0 (gV wd551 wd552 wd553 wd9 wd554) rfl rfl rfl (by decide +kernel) ⟨Nat.le_of_ble_eq_true rfl, Nat.le_of_ble_eq_true rfl⟩) hK hN hP hD [1] rfl (by decide) 1 3 rfl rfl rfl hl.1 rfl (Nat.le_of_ble_eq_true rfl) dX8_put_5 ⟨Nat.zero_le _, Nat.zero_le _⟩) hP hD hS hA [1] [0, 2, 3, 4, 5, 6, 7, 8, 9, 10, 11, 12, 13, 14, 15, 16, 17, 18, 19, 20, 21] rfl rfl (by decide) (by decide) [0, 21, 1, 2, 3, 4, 5, 6, 7, 8, 9, 10, 11, 12, 13, 14, 15, 16, 17, 18, 19, 20] (by decide) rfl rfl (fun H locs hP hD hS => ?_)
  refine lv_if_eq (tgt := 23) hx hb dX8_put_8 (by decide) (fun c8 => ?_) (fun c8 => ?_)
  · have hok := k_pos c8 hok
    exact J23  H locs ls hP hD hS (lv_sub hl [0] rfl) hok
  · have hok := k_neg c8 hok
    refine lv_aload_n hx hb dX8_put_11 rfl (lv_at hl 0 rfl) ?_
    refine va_get (D := D) (ci := 7) (v := .ref aH) (C := RX8) (T := TX8) (N := 9) hx hb ht0 niX8 hown hK hP 0 rfl rfl 5 (by decide) (ht0 _ wd522) (fun _ h9 => h9) rfl dX8_put_12 ?_
    refine lv_iload_n hx hb dX8_put_15 rfl (lv_at hl 2 rfl) ?_
    refine lv_iload_n hx hb dX8_put_16 rfl (lv_at hl 3 rfl) ?_
    obtain ⟨r17, hc17, hok⟩ := k_bind hok
    refine kCi (wc := (wX4_hasPlace cy aH qH vH vH_places)) (wc2 := (wX4_hasPlace cy aH qH vH vH_places)) (wr := [(aN, oX8 vN qN aH), (qN 1, oX1 vD qD), (qD 0, rI cy 9 vD_now), (qD 1, rR cy 16 (fun j => some (pD_past j))), (pD_past 0, rI cy 9 (vD_past 0)), (pD_past 1, rI cy 9 (vD_past 1)), (pD_past 2, rI cy 9 (vD_past 2)), (pD_past 3, rI cy 9 (vD_past 3)), (pD_past 4, rI cy 9 (vD_past 4)), (pD_past 5, rI cy 9 (vD_past 5)), (pD_past 6, rI cy 9 (vD_past 6)), (pD_past 7, rI cy 9 (vD_past 7)), (pD_past 8, rI cy 9 (vD_past 8)), (pD_past 9, rI cy 9 (vD_past 9)), (pD_past 10, rI cy 9 (vD_past 10)), (pD_past 11, rI cy 9 (vD_past 11)), (pD_past 12, rI cy 9 (vD_past 12)), (pD_past 13, rI cy 9 (vD_past 13)), (pD_past 14, rI cy 9 (vD_past 14)), (pD_past 15, rI cy 9 (vD_past 15))]) (ws2 := (wX8_put cy aN qN aH qH qD pD_past aH vN vH vH_places vD vD_now vD_past)) (kRunV (As := [.int x2, .int x3]) (rest := []) ⟨hx, hb, hml, hown, ht0⟩ (kX4_hasPlace l D cy _ aH qH vH vH_places x2 x3 r17 hc17 _ rfl) (cwV 2 ht0 (gV wd566 wd567 wd568 wd9 wd569) rfl rfl rfl (by decide +kernel) ⟨Nat.le_of_ble_eq_true rfl, Nat.le_of_ble_eq_true rfl⟩) hK hN hP hD [1, 2] rfl (by decide) 1 3 rfl rfl rfl hl.1 rfl (Nat.le_of_ble_eq_true rfl) dX8_put_17 ⟨Nat.zero_le _, Nat.zero_le _⟩) hP hD hS hA [1, 2] [0, 3, 4, 5, 6, 7, 8, 9, 10, 11, 12, 13, 14, 15, 16, 17, 18, 19, 20, 21] rfl rfl (by decide) (by decide) [0, 20, 21, 1, 2, 3, 4, 5, 6, 7, 8, 9, 10, 11, 12, 13, 14, 15, 16, 17, 18, 19] (by decide) rfl rfl (fun H locs hP hD hS => ?_)
    refine lv_if_ne (tgt := 29) hx hb dX8_put_20 (by decide) (fun c20 => ?_) (fun c20 => ?_)
    · have hok := k_neg c20 hok
      refine lv_iload_n hx hb dX8_put_29 rfl (lv_at hl 2 rfl) ?_
      refine lv_iload_n hx hb dX8_put_30 rfl (lv_at hl 3 rfl) ?_
      obtain ⟨r31, hc31, hok⟩ := k_bind hok
      refine kCi (wc := (wX8_cellAt cy )) (wc2 := (wX8_cellAt cy )) (wr := [(aN, oX8 vN qN aH), (aH, oX4 vH qH), (qH 9, rI cy 4 vH_places), (qN 1, oX1 vD qD), (qD 0, rI cy 9 vD_now), (qD 1, rR cy 16 (fun j => some (pD_past j))), (pD_past 0, rI cy 9 (vD_past 0)), (pD_past 1, rI cy 9 (vD_past 1)), (pD_past 2, rI cy 9 (vD_past 2)), (pD_past 3, rI cy 9 (vD_past 3)), (pD_past 4, rI cy 9 (vD_past 4)), (pD_past 5, rI cy 9 (vD_past 5)), (pD_past 6, rI cy 9 (vD_past 6)), (pD_past 7, rI cy 9 (vD_past 7)), (pD_past 8, rI cy 9 (vD_past 8)), (pD_past 9, rI cy 9 (vD_past 9)), (pD_past 10, rI cy 9 (vD_past 10)), (pD_past 11, rI cy 9 (vD_past 11)), (pD_past 12, rI cy 9 (vD_past 12)), (pD_past 13, rI cy 9 (vD_past 13)), (pD_past 14, rI cy 9 (vD_past 14)), (pD_past 15, rI cy 9 (vD_past 15))]) (ws2 := (wX8_put cy aN qN aH qH qD pD_past aH vN vH vH_places vD vD_now vD_past)) (kRunS (As := [.int x2, .int x3]) (rest := []) ⟨hx, hb, hml, hown, ht0⟩ (kX8_cellAt l D cy _ x2 x3 r31 hc31 _ rfl) (va_cwS 2 ht0 (gS wd570 wd261 wd57 wd260) rfl rfl rfl (by decide +kernel) ⟨Nat.le_of_ble_eq_true rfl, Nat.le_of_ble_eq_true rfl⟩) hK hN hP hD [] rfl (by decide) rfl hl.1 rfl (Nat.le_of_ble_eq_true rfl) dX8_put_31 ⟨Nat.zero_le _, Nat.zero_le _⟩) hP hD hS hA [] [0, 1, 2, 3, 4, 5, 6, 7, 8, 9, 10, 11, 12, 13, 14, 15, 16, 17, 18, 19, 20, 21] rfl rfl (by decide) (by decide) [0, 1, 2, 3, 4, 5, 6, 7, 8, 9, 10, 11, 12, 13, 14, 15, 16, 17, 18, 19, 20, 21] (by decide) rfl rfl (fun H locs hP hD hS => ?_)
      refine lv_istore (lv' := [(4, .int r31), (0, .ref aN), (1, .int x1), (2, .int x2), (3, .int x3)]) hx hb dX8_put_34 hl (by decide) rfl (fun ls hl => ?_)
      refine lv_aload_n hx hb dX8_put_36 rfl (lv_at hl 1 rfl) ?_
      refine va_get (D := D) (ci := 7) (v := .ref (qN 1)) (C := RX8) (T := TX8) (N := 9) hx hb ht0 niX8 hown hK hP 0 rfl rfl 1 (by decide) (ht0 _ wd527) (fun _ h9 => h9) rfl dX8_put_37 ?_
      refine lv_iload_n hx hb dX8_put_40 rfl (lv_at hl 2 rfl) ?_
      obtain ⟨r41, hc41, hok⟩ := k_bind hok
      refine kCi (wc := (wX1_isHeld cy (qN 1) qD vD vD_now)) (wc2 := (wX1_isHeld cy (qN 1) qD vD vD_now)) (wr := [(aN, oX8 vN qN aH), (aH, oX4 vH qH), (qH 9, rI cy 4 vH_places), (qD 1, rR cy 16 (fun j => some (pD_past j))), (pD_past 0, rI cy 9 (vD_past 0)), (pD_past 1, rI cy 9 (vD_past 1)), (pD_past 2, rI cy 9 (vD_past 2)), (pD_past 3, rI cy 9 (vD_past 3)), (pD_past 4, rI cy 9 (vD_past 4)), (pD_past 5, rI cy 9 (vD_past 5)), (pD_past 6, rI cy 9 (vD_past 6)), (pD_past 7, rI cy 9 (vD_past 7)), (pD_past 8, rI cy 9 (vD_past 8)), (pD_past 9, rI cy 9 (vD_past 9)), (pD_past 10, rI cy 9 (vD_past 10)), (pD_past 11, rI cy 9 (vD_past 11)), (pD_past 12, rI cy 9 (vD_past 12)), (pD_past 13, rI cy 9 (vD_past 13)), (pD_past 14, rI cy 9 (vD_past 14)), (pD_past 15, rI cy 9 (vD_past 15))]) (ws2 := (wX8_put cy aN qN aH qH qD pD_past aH vN vH vH_places vD vD_now vD_past)) (kRunV (As := [.int x1]) (rest := []) ⟨hx, hb, hml, hown, ht0⟩ (kX1_isHeld l D cy _ (qN 1) qD vD vD_now x1 r41 hc41 _ rfl) (cwV 1 ht0 (gV wd565 wd72 wd73 wd74 wd75) rfl rfl rfl (by decide +kernel) ⟨Nat.le_of_ble_eq_true rfl, Nat.le_of_ble_eq_true rfl⟩) hK hN hP hD [3, 4] rfl (by decide) 3 1 rfl rfl rfl hl.1 rfl (Nat.le_of_ble_eq_true rfl) dX8_put_41 ⟨Nat.zero_le _, Nat.zero_le _⟩) hP hD hS hA [3, 4] [0, 1, 2, 5, 6, 7, 8, 9, 10, 11, 12, 13, 14, 15, 16, 17, 18, 19, 20, 21] rfl rfl (by decide) (by decide) [0, 1, 2, 20, 21, 3, 4, 5, 6, 7, 8, 9, 10, 11, 12, 13, 14, 15, 16, 17, 18, 19] (by decide) rfl rfl (fun H locs hP hD hS => ?_)
      refine lv_if_ne (tgt := 66) hx hb dX8_put_44 (by decide) (fun c44 => ?_) (fun c44 => ?_)
      · have hok := k_neg c44 hok
        exact J66  H locs ls hP hD hS (lv_sub hl [1] rfl) hok
      · have hok := k_pos c44 hok
        refine lv_aload_n hx hb dX8_put_47 rfl (lv_at hl 1 rfl) ?_
        refine va_get (D := D) (ci := 7) (v := .ref (qN 1)) (C := RX8) (T := TX8) (N := 9) hx hb ht0 niX8 hown hK hP 0 rfl rfl 1 (by decide) (ht0 _ wd527) (fun _ h9 => h9) rfl dX8_put_48 ?_
        refine lv_iload hx hb dX8_put_51 (lv_at hl 0 rfl) ?_
        refine lv_aload_n hx hb dX8_put_53 rfl (lv_at hl 1 rfl) ?_
        refine va_get (D := D) (ci := 7) (v := .ref aH) (C := RX8) (T := TX8) (N := 9) hx hb ht0 niX8 hown hK hP 0 rfl rfl 5 (by decide) (ht0 _ wd522) (fun _ h9 => h9) rfl dX8_put_54 ?_
        refine va_get (D := D) (ci := 3) (v := .int (vH 5)) (C := RX4) (T := TX4) (N := 20) hx hb ht0 niX4 hown hK hP 1 rfl rfl 5 (by decide) (ht0 _ wd543) (fun _ h9 => h9) rfl dX8_put_57 ?_
        obtain ⟨r60, hc60, hok⟩ := k_bind hok
        refine kCi (wc := (wX1_thingAt cy (qN 1) qD vD vD_now)) (wc2 := (wX1_thingAt cy (qN 1) qD vD vD_now)) (wr := [(aN, oX8 vN qN aH), (aH, oX4 vH qH), (qH 9, rI cy 4 vH_places), (qD 1, rR cy 16 (fun j => some (pD_past j))), (pD_past 0, rI cy 9 (vD_past 0)), (pD_past 1, rI cy 9 (vD_past 1)), (pD_past 2, rI cy 9 (vD_past 2)), (pD_past 3, rI cy 9 (vD_past 3)), (pD_past 4, rI cy 9 (vD_past 4)), (pD_past 5, rI cy 9 (vD_past 5)), (pD_past 6, rI cy 9 (vD_past 6)), (pD_past 7, rI cy 9 (vD_past 7)), (pD_past 8, rI cy 9 (vD_past 8)), (pD_past 9, rI cy 9 (vD_past 9)), (pD_past 10, rI cy 9 (vD_past 10)), (pD_past 11, rI cy 9 (vD_past 11)), (pD_past 12, rI cy 9 (vD_past 12)), (pD_past 13, rI cy 9 (vD_past 13)), (pD_past 14, rI cy 9 (vD_past 14)), (pD_past 15, rI cy 9 (vD_past 15))]) (ws2 := (wX8_put cy aN qN aH qH qD pD_past aH vN vH vH_places vD vD_now vD_past)) (kRunV (As := [.int r31, .int (vH 5)]) (rest := []) ⟨hx, hb, hml, hown, ht0⟩ (kX1_thingAt l D cy _ (qN 1) qD vD vD_now r31 (vH 5) r60 hc60 _ rfl) (cwV 2 ht0 (gV wd571 wd572 wd573 wd74 wd574) rfl rfl rfl (by decide +kernel) ⟨Nat.le_of_ble_eq_true rfl, Nat.le_of_ble_eq_true rfl⟩) hK hN hP hD [3, 4] rfl (by decide) 3 1 rfl rfl rfl hl.1 rfl (Nat.le_of_ble_eq_true rfl) dX8_put_60 ⟨Nat.zero_le _, Nat.zero_le _⟩) hP hD hS hA [3, 4] [0, 1, 2, 5, 6, 7, 8, 9, 10, 11, 12, 13, 14, 15, 16, 17, 18, 19, 20, 21] rfl rfl (by decide) (by decide) [0, 1, 2, 20, 21, 3, 4, 5, 6, 7, 8, 9, 10, 11, 12, 13, 14, 15, 16, 17, 18, 19] (by decide) rfl rfl (fun H locs hP hD hS => ?_)
        refine lv_if_lt (tgt := 72) hx hb dX8_put_63 (by decide) (fun c63 => ?_) (fun c63 => ?_)
        · have hok := k_pos c63 hok
          refine lv_aload_n hx hb dX8_put_72 rfl (lv_at hl 1 rfl) ?_
          refine va_get (D := D) (ci := 7) (v := .ref (qN 1)) (C := RX8) (T := TX8) (N := 9) hx hb ht0 niX8 hown hK hP 0 rfl rfl 1 (by decide) (ht0 _ wd527) (fun _ h9 => h9) rfl dX8_put_73 ?_
          obtain ⟨⟨vD_76, vD_past_76⟩, hc76, hok⟩ := k_bind hok
          try dsimp only at hok
          refine kCv (wc := (wX1_keep cy (qN 1) qD pD_past vD vD_past vD_now)) (wc2 := (wX1_keep cy (qN 1) qD pD_past vD_76 vD_past_76 vD_now)) (wr := [(aN, oX8 vN qN aH), (aH, oX4 vH qH), (qH 9, rI cy 4 vH_places)]) (ws2 := (wX8_put cy aN qN aH qH qD pD_past aH vN vH vH_places vD_76 vD_now vD_past_76)) (kRunV (As := []) (rest := []) ⟨hx, hb, hml, hown, ht0⟩ (kX1_keep l D cy _ (qN 1) qD pD_past vD vD_past vD_now vD_76 vD_past_76 hc76 _ rfl) (cwV 0 ht0 (gV wd684 wd685 wd686 wd74 wd687) rfl rfl rfl (by decide +kernel) ⟨Nat.le_of_ble_eq_true rfl, Nat.le_of_ble_eq_true rfl⟩) hK hN hP hD [3, 5, 6, 7, 8, 9, 10, 11, 12, 13, 14, 15, 16, 17, 18, 19, 20, 21, 4] rfl (by decide) 3 1 rfl rfl rfl hl.1 rfl (Nat.le_of_ble_eq_true rfl) dX8_put_76 ⟨Nat.zero_le _, Nat.zero_le _⟩) hP hD hS hA [3, 5, 6, 7, 8, 9, 10, 11, 12, 13, 14, 15, 16, 17, 18, 19, 20, 21, 4] [0, 1, 2] rfl rfl (by decide) (by decide) [0, 1, 2, 3, 21, 4, 5, 6, 7, 8, 9, 10, 11, 12, 13, 14, 15, 16, 17, 18, 19, 20] (by decide) rfl rfl (fun H locs hP hD hS => ?_)
          refine lv_aload_n hx hb dX8_put_79 rfl (lv_at hl 1 rfl) ?_
          refine va_get (D := D) (ci := 7) (v := .ref (qN 1)) (C := RX8) (T := TX8) (N := 9) hx hb ht0 niX8 hown hK hP 0 rfl rfl 1 (by decide) (ht0 _ wd527) (fun _ h9 => h9) rfl dX8_put_80 ?_
          refine lv_iload_n hx hb dX8_put_83 rfl (lv_at hl 2 rfl) ?_
          refine lv_iload hx hb dX8_put_84 (lv_at hl 0 rfl) ?_
          obtain ⟨vD_now_86, hc86, hok⟩ := k_bind hok
          refine kCv (wc := (wX1_move cy (qN 1) qD vD_76 vD_now)) (wc2 := (wX1_move cy (qN 1) qD vD_76 vD_now_86)) (wr := [(aN, oX8 vN qN aH), (aH, oX4 vH qH), (qH 9, rI cy 4 vH_places), (qD 1, rR cy 16 (fun j => some (pD_past j))), (pD_past 0, rI cy 9 (vD_past_76 0)), (pD_past 1, rI cy 9 (vD_past_76 1)), (pD_past 2, rI cy 9 (vD_past_76 2)), (pD_past 3, rI cy 9 (vD_past_76 3)), (pD_past 4, rI cy 9 (vD_past_76 4)), (pD_past 5, rI cy 9 (vD_past_76 5)), (pD_past 6, rI cy 9 (vD_past_76 6)), (pD_past 7, rI cy 9 (vD_past_76 7)), (pD_past 8, rI cy 9 (vD_past_76 8)), (pD_past 9, rI cy 9 (vD_past_76 9)), (pD_past 10, rI cy 9 (vD_past_76 10)), (pD_past 11, rI cy 9 (vD_past_76 11)), (pD_past 12, rI cy 9 (vD_past_76 12)), (pD_past 13, rI cy 9 (vD_past_76 13)), (pD_past 14, rI cy 9 (vD_past_76 14)), (pD_past 15, rI cy 9 (vD_past_76 15))]) (ws2 := (wX8_put cy aN qN aH qH qD pD_past aH vN vH vH_places vD_76 vD_now_86 vD_past_76)) (kRunV (As := [.int x1, .int r31]) (rest := []) ⟨hx, hb, hml, hown, ht0⟩ (kX1_move l D cy _ (qN 1) qD vD_76 vD_now x1 r31 vD_now_86 hc86 _ rfl) (cwV 2 ht0 (gV wd696 wd697 wd698 wd74 wd699) rfl rfl rfl (by decide +kernel) ⟨Nat.le_of_ble_eq_true rfl, Nat.le_of_ble_eq_true rfl⟩) hK hN hP hD [3, 4] rfl (by decide) 3 1 rfl rfl rfl hl.1 rfl (Nat.le_of_ble_eq_true rfl) dX8_put_86 ⟨Nat.zero_le _, Nat.zero_le _⟩) hP hD hS hA [3, 4] [0, 1, 2, 5, 6, 7, 8, 9, 10, 11, 12, 13, 14, 15, 16, 17, 18, 19, 20, 21] rfl rfl (by decide) (by decide) [0, 1, 2, 20, 21, 3, 4, 5, 6, 7, 8, 9, 10, 11, 12, 13, 14, 15, 16, 17, 18, 19] (by decide) rfl rfl (fun H locs hP hD hS => ?_)
          refine lv_aload_n hx hb dX8_put_89 rfl (lv_at hl 1 rfl) ?_
          refine lv_iconst (v := 0) hx hb dX8_put_90 (by decide) ?_
          obtain ⟨⟨r91, vN_91⟩, hc91, hok⟩ := k_bind hok
          try dsimp only at hok
          refine kCi (wc := (wX8_isDone cy aN qN aH aH vN)) (wc2 := (wX8_isDone cy aN qN aH aH vN_91)) (wr := [(aH, oX4 vH qH), (qH 9, rI cy 4 vH_places), (qN 1, oX1 vD_76 qD), (qD 0, rI cy 9 vD_now_86), (qD 1, rR cy 16 (fun j => some (pD_past j))), (pD_past 0, rI cy 9 (vD_past_76 0)), (pD_past 1, rI cy 9 (vD_past_76 1)), (pD_past 2, rI cy 9 (vD_past_76 2)), (pD_past 3, rI cy 9 (vD_past_76 3)), (pD_past 4, rI cy 9 (vD_past_76 4)), (pD_past 5, rI cy 9 (vD_past_76 5)), (pD_past 6, rI cy 9 (vD_past_76 6)), (pD_past 7, rI cy 9 (vD_past_76 7)), (pD_past 8, rI cy 9 (vD_past_76 8)), (pD_past 9, rI cy 9 (vD_past_76 9)), (pD_past 10, rI cy 9 (vD_past_76 10)), (pD_past 11, rI cy 9 (vD_past_76 11)), (pD_past 12, rI cy 9 (vD_past_76 12)), (pD_past 13, rI cy 9 (vD_past_76 13)), (pD_past 14, rI cy 9 (vD_past_76 14)), (pD_past 15, rI cy 9 (vD_past_76 15))]) (ws2 := (wX8_put cy aN qN aH qH qD pD_past aH vN_91 vH vH_places vD_76 vD_now_86 vD_past_76)) (kRunV (As := [.int 0]) (rest := []) ⟨hx, hb, hml, hown, ht0⟩ (kX8_isDone l D cy _ aN qN aH vN (0 : Int32) r91 vN_91 hc91 _ rfl) (cwV 1 ht0 (gV wd692 wd693 wd694 wd57 wd695) rfl rfl rfl (by decide +kernel) ⟨Nat.le_of_ble_eq_true rfl, Nat.le_of_ble_eq_true rfl⟩) hK hN hP hD [0] rfl (by decide) 0 7 rfl rfl rfl hl.1 rfl (Nat.le_of_ble_eq_true rfl) dX8_put_91 ⟨Nat.zero_le _, Nat.zero_le _⟩) hP hD hS hA [0] [1, 2, 3, 4, 5, 6, 7, 8, 9, 10, 11, 12, 13, 14, 15, 16, 17, 18, 19, 20, 21] rfl rfl (by decide) (by decide) [21, 0, 1, 2, 3, 4, 5, 6, 7, 8, 9, 10, 11, 12, 13, 14, 15, 16, 17, 18, 19, 20] (by decide) rfl rfl (fun H locs hP hD hS => ?_)
          obtain ⟨g94, hok⟩ := gd_some hok
          cases hok
          subst hQe; exact W.zret hx hb hr (isB_nar g94) (fun t ht hW => ⟨⟨_, (), rfl, rfl, by rw [ht]; exact hP, va_K.moved hW.alike hK, hD⟩, hS.F ht⟩) hS.2.2 dX8_put_94
        · have hok := k_neg c63 hok
          exact J66  H locs ls hP hD hS (lv_sub hl [1] rfl) hok
    · have hok := k_pos c20 hok
      exact J23  H locs ls hP hD hS (lv_sub hl [0] rfl) hok
