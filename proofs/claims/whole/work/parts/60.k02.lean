def wsX6_goOn : List Cond := .code yX6_goOn cX6_goOn 4 (some .int) :: W0
abbrev wX6_goOn (cy : Nat → ClassId) (aW : Nat) (qW : Nat → Nat) (aH : Nat) (qH : Nat → Nat) (vW : Nat → Int32) (vH : Nat → Int32) (vW_cells : Nat → Int32) (vH_next : Nat → Int32) (vW_who : Nat → Int32) (vW_inFront : Nat → Int32) (vH_sizes : Nat → Int32) (vH_width : Nat → Int32) (vH_kinds : Nat → Int32) : va_W := [(aW, oX6 vW qW aH), (aH, oX4 vH qH), (qW 0, rI cy 7 vW_cells), (qH 10, rI cy 36 vH_next), (qW 1, rI cy 36 vW_who), (qW 2, rI cy 7 vW_inFront), (qH 15, rI cy 7 vH_sizes), (qH 11, rI cy 36 vH_width), (qH 14, rI cy 7 vH_kinds)]
set_option maxHeartbeats 4000000 in
set_option maxRecDepth 100000 in
theorem kX6_goOn (l : Launch) (D : va_G) (cy : Nat → ClassId) (sz : Nat) (aW : Nat) (qW : Nat → Nat) (aH : Nat) (qH : Nat → Nat) (vW : Nat → Int32) (vH : Nat → Int32) (vW_cells : Nat → Int32) (vH_next : Nat → Int32) (vW_who : Nat → Int32) (vW_inFront : Nat → Int32) (vH_sizes : Nat → Int32) (vH_width : Nat → Int32) (vH_kinds : Nat → Int32) (x1 : Int32) (zr : Int32) (z_vW : Nat → Int32) (z_vW_cells : Nat → Int32) (z_vW_who : Nat → Int32) (z_vW_inFront : Nat → Int32) (hok : fX6_goOn vW vH vW_cells vH_next vW_who vW_inFront vH_sizes vH_width vH_kinds x1 = some (zr, z_vW, z_vW_cells, z_vW_who, z_vW_inFront)) (A : Nat → Prop) (hAe : va_A (wX6_goOn cy aW qW aH qH vW vH vW_cells vH_next vW_who vW_inFront vH_sizes vH_width vH_kinds) sz = A) : Met l yX6_goOn wsX6_goOn ({ frames := 3, cells := 0, slots := 0, locals := 73 } : Room) (kPre D cy [.ref aW, .int x1] (wX6_goOn cy aW qW aH qH vW vH vW_cells vH_next vW_who vW_inFront vH_sizes vH_width vH_kinds) sz) (kQi D cy zr A (wX6_goOn cy aW qW aH qH z_vW vH z_vW_cells vH_next z_vW_who z_vW_inFront vH_sizes vH_width vH_kinds)) 0 0 A := by
  refine Met.ofW (cc := cX6_goOn) (maxL := 4) (ret := (some .int)) (by decide) rfl ?_
  intro p e s m args below meth c s₁ B hml hv
  obtain ⟨rfl, hsz, hP, hK, hD0, hN⟩ := hv
  have hx := B.exec
  have hb := B.bytes
  have hr := B.returns
  have ht0 : ∀ w ∈ W0, w.before _ s = true := fun w h => atoms_spec (ws := wsX6_goOn) B.pre w (List.mem_cons_of_mem _ h)
  have hown : s.vm.findClass RX6 = some m.cls := findClass_of_methodNamed B.named
  have hlocks := B.notSynchronized
  subst hsz
  have hD : va_D A (wX6_goOn cy aW qW aH qH vW vH vW_cells vH_next vW_who vW_inFront vH_sizes vH_width vH_kinds) := by rw [← hAe]; exact hD0.self
  have hA : ∀ q : Nat, s.heap.size ≤ q → A q := fun q h => by rw [← hAe]; exact Or.inr h
  have hS : va_S A s.heap s.heap [] := va_S.rf
  have hl := lv_entry ([.ref aW, .int x1]) (n := 4) (Nat.le_of_ble_eq_true rfl)
  rw [lg_entry_eq]
  generalize (lg_sl ([.ref aW, .int x1]) ++ List.replicate (4 - (lg_sl ([.ref aW, .int x1])).length) Slot.unset).toArray = ls at hl ⊢
  have hl : lv_has ls 4 [(0, .ref aW), (1, .int x1)] := hl
  generalize hQe : MQ below (kQi D cy zr A (wX6_goOn cy aW qW aH qH z_vW vH z_vW_cells vH_next z_vW_who z_vW_inFront vH_sizes vH_width vH_kinds)) ([.ref aW, .int x1] : List Value).toArray s 0 0 A = Q
  have L4 : ∀ (fuel : Nat) (y2_4 : Int32) (y3_4 : Int32) (vW_cells_4 : Nat → Int32) (vW_inFront_4 : Nat → Int32) (vW_who_4 : Nat → Int32) (vW_4 : Nat → Int32), ∀ (H : Heap) (locs : List Loc) (ls : Array Slot), va_P D vwCl (wX6_goOn cy aW qW aH qH vW_4 vH vW_cells_4 vH_next vW_who_4 vW_inFront_4 vH_sizes vH_width vH_kinds) H → va_D A (wX6_goOn cy aW qW aH qH vW_4 vH vW_cells_4 vH_next vW_who_4 vW_inFront_4 vH_sizes vH_width vH_kinds) → va_S A s.heap H locs → lv_has ls 4 [(0, .ref aW), (1, .int x1), (2, .int y2_4), (3, .int y3_4)] → lp (fX6_goOn_B4 vH vH_next vH_sizes vH_width vH_kinds x1) fuel (y2_4, y3_4, vW_cells_4, vW_inFront_4, vW_who_4, vW_4) = some (zr, z_vW, z_vW_cells, z_vW_who, z_vW_inFront) → W p l e ({ frames := 3, cells := 0, slots := 0, locals := 73 } : Room) s m ([.ref aW, .int x1] : List Value).toArray below meth c H locs 0 0 Q (F0 m 4 ls []) := by
    intro fuel
    induction fuel with
    | zero => intro y2_4 y3_4 vW_cells_4 vW_inFront_4 vW_who_4 vW_4 H locs ls hP hD hS hl hok; exact (lp_0 hok).elim
    | succ fuel ih4 =>
      intro y2_4 y3_4 vW_cells_4 vW_inFront_4 vW_who_4 vW_4 H locs ls hP hD hS hl hok
      obtain ⟨y4, hok, hL4, hR4⟩ := lp_step hok
      unfold fX6_goOn_B4 at hok
      try dsimp only at hok
      refine lv_iload_n hx hb dX6_goOn_4 rfl (lv_at hl 3 rfl) ?_
      refine lv_iload_n hx hb dX6_goOn_5 rfl (lv_at hl 1 rfl) ?_
      refine lv_icmp_ge (tgt := 30) hx hb dX6_goOn_6 (by decide) (fun c6 => ?_) (fun c6 => ?_)
      · have hok := k_pos c6 hok
        obtain ⟨e4, hok, he4⟩ := ex_some hok
        have hok := hok.trans (congrArg some (hL4 _ he4))
        refine lv_iload_n hx hb dX6_goOn_30 rfl (lv_at hl 2 rfl) ?_
        cases hok
        subst hQe; exact W.iret hx hb hr (fun t ht hW => ⟨⟨_, (), rfl, rfl, by rw [ht]; exact hP, va_K.moved hW.alike hK, hD⟩, hS.F ht⟩) hS.2.2 dX6_goOn_31
      · have hok := k_neg c6 hok
        refine lv_aload_n hx hb dX6_goOn_9 rfl (lv_at hl 0 rfl) ?_
        refine lv_iconst (v := 0) hx hb dX6_goOn_10 (by decide) ?_
        obtain ⟨⟨vW_11, vW_cells_11, vW_who_11, vW_inFront_11⟩, hc11, hok⟩ := k_bind hok
        try dsimp only at hok
        refine kCv (wc := (wX6_pass cy aW qW aH qH vW_4 vH vW_cells_4 vH_next vW_who_4 vW_inFront_4 vH_sizes vH_width vH_kinds)) (wc2 := (wX6_pass cy aW qW aH qH vW_11 vH vW_cells_11 vH_next vW_who_11 vW_inFront_11 vH_sizes vH_width vH_kinds)) (wr := []) (ws2 := (wX6_goOn cy aW qW aH qH vW_11 vH vW_cells_11 vH_next vW_who_11 vW_inFront_11 vH_sizes vH_width vH_kinds)) (kRunV (As := [.int 0]) (rest := []) ⟨hx, hb, hml, hown, ht0⟩ (kX6_pass l D cy _ aW qW aH qH vW_4 vH vW_cells_4 vH_next vW_who_4 vW_inFront_4 vH_sizes vH_width vH_kinds (0 : Int32) vW_11 vW_cells_11 vW_who_11 vW_inFront_11 hc11 _ rfl) (cwV 1 ht0 (gV wd154 wd155 wd156 wd114 wd157) rfl rfl rfl (by decide +kernel) ⟨Nat.le_of_ble_eq_true rfl, Nat.le_of_ble_eq_true rfl⟩) hK hN hP hD [0, 1, 2, 3, 4, 5, 6, 7, 8] rfl (by decide) 0 5 rfl rfl rfl hl.1 rfl (Nat.le_of_ble_eq_true rfl) dX6_goOn_11 ⟨Nat.zero_le _, Nat.zero_le _⟩) hP hD hS hA [0, 1, 2, 3, 4, 5, 6, 7, 8] [] rfl rfl (by decide) (by decide) [0, 1, 2, 3, 4, 5, 6, 7, 8] (by decide) rfl rfl (fun H locs hP hD hS => ?_)
        refine lv_iload_n hx hb dX6_goOn_14 rfl (lv_at hl 2 rfl) ?_
        refine lv_aload_n hx hb dX6_goOn_15 rfl (lv_at hl 0 rfl) ?_
        refine va_get (D := D) (ci := 5) (v := .int (vW_11 12)) (C := RX6) (T := TX6) (N := 13) hx hb ht0 niX6 hown hK hP 0 rfl rfl 12 (by decide) (ht0 _ wd136) (fun _ h9 => h9) rfl dX6_goOn_16 ?_
        obtain ⟨r19, hc19, hok⟩ := k_bind hok
        refine kCi (wc := (wJ6_bitCount_0f7a4 cy )) (wc2 := (wJ6_bitCount_0f7a4 cy )) (wr := [(aW, oX6 vW_11 qW aH), (aH, oX4 vH qH), (qW 0, rI cy 7 vW_cells_11), (qH 10, rI cy 36 vH_next), (qW 1, rI cy 36 vW_who_11), (qW 2, rI cy 7 vW_inFront_11), (qH 15, rI cy 7 vH_sizes), (qH 11, rI cy 36 vH_width), (qH 14, rI cy 7 vH_kinds)]) (ws2 := (wX6_goOn cy aW qW aH qH vW_11 vH vW_cells_11 vH_next vW_who_11 vW_inFront_11 vH_sizes vH_width vH_kinds)) (kRunS (As := [.int (vW_11 12)]) (rest := [.int y2_4]) ⟨hx, hb, hml, hown, ht0⟩ (kJ6_bitCount_0f7a4 l D cy _ (vW_11 12) r19 hc19 _ rfl) (va_cwS 1 ht0 (gS wd158 wd89 wd90 wd91) rfl rfl rfl (by decide +kernel) ⟨Nat.le_of_ble_eq_true rfl, Nat.le_of_ble_eq_true rfl⟩) hK hN hP hD [] rfl (by decide) rfl hl.1 rfl (Nat.le_of_ble_eq_true rfl) dX6_goOn_19 ⟨Nat.zero_le _, Nat.zero_le _⟩) hP hD hS hA [] [0, 1, 2, 3, 4, 5, 6, 7, 8] rfl rfl (by decide) (by decide) [0, 1, 2, 3, 4, 5, 6, 7, 8] (by decide) rfl rfl (fun H locs hP hD hS => ?_)
        refine lv_iadd hx hb dX6_goOn_22 ?_
        refine lv_istore_n (lv' := [(2, .int (y2_4 + r19)), (0, .ref aW), (1, .int x1), (3, .int y3_4)]) hx hb dX6_goOn_23 rfl hl (by decide) rfl (fun ls hl => ?_)
        refine lv_iinc (v := (y3_4 + 1)) (lv' := [(3, .int (y3_4 + 1)), (2, .int (y2_4 + r19)), (0, .ref aW), (1, .int x1)]) hx hb dX6_goOn_24 hl (k := 3) rfl (by first | rfl | decide) (by decide) rfl (fun ls hl => ?_)
        refine lv_goto (tgt := 4) hx hb dX6_goOn_27 (by decide) ?_
        exact ih4 (y2_4 + r19) (y3_4 + 1) vW_cells_11 vW_inFront_11 vW_who_11 vW_11 H locs ls hP hD hS (lv_sub hl [2, 3, 1, 0] rfl) (hR4 _ (Option.some.inj hok).symm)
  unfold fX6_goOn at hok
  obtain ⟨H, hH⟩ : ∃ H, H = s.heap := ⟨_, rfl⟩
  obtain ⟨locs, hlc⟩ : ∃ x : List Loc, x = [] := ⟨_, rfl⟩
  have hP : va_P D vwCl (wX6_goOn cy aW qW aH qH vW vH vW_cells vH_next vW_who vW_inFront vH_sizes vH_width vH_kinds) H := by rw [hH]; exact hP
  have hS : va_S A s.heap H locs := by rw [hH, hlc]; exact hS
  rw [show W p l e _ s m _ below meth c s.heap [] = W p l e _ s m _ below meth c H locs from by rw [hH, hlc]]
  refine lv_iconst (v := 0) hx hb dX6_goOn_0 (by decide) ?_
  refine lv_istore_n (lv' := [(2, .int 0), (0, .ref aW), (1, .int x1)]) hx hb dX6_goOn_1 rfl hl (by decide) rfl (fun ls hl => ?_)
  refine lv_iconst (v := 0) hx hb dX6_goOn_2 (by decide) ?_
  refine lv_istore_n (lv' := [(3, .int 0), (2, .int 0), (0, .ref aW), (1, .int x1)]) hx hb dX6_goOn_3 rfl hl (by decide) rfl (fun ls hl => ?_)
  exact L4 5000 (0 : Int32) (0 : Int32) vW_cells vW_inFront vW_who vW H locs ls hP hD hS (lv_sub hl [2, 3, 1, 0] rfl) hok
def wsX6_cellOf : List Cond := .code yX6_cellOf cX6_cellOf 2 (some .int) :: W0
abbrev wX6_cellOf (cy : Nat → ClassId) (aW : Nat) (qW : Nat → Nat) (aH : Nat) (vW : Nat → Int32) (vW_cells : Nat → Int32) : va_W := [(aW, oX6 vW qW aH), (qW 0, rI cy 7 vW_cells)]
set_option maxHeartbeats 4000000 in
set_option maxRecDepth 100000 in
theorem kX6_cellOf (l : Launch) (D : va_G) (cy : Nat → ClassId) (sz : Nat) (aW : Nat) (qW : Nat → Nat) (aH : Nat) (vW : Nat → Int32) (vW_cells : Nat → Int32) (x1 : Int32) (zr : Int32) (hok : fX6_cellOf vW vW_cells x1 = some zr) (A : Nat → Prop) (hAe : va_A (wX6_cellOf cy aW qW aH vW vW_cells) sz = A) : Met l yX6_cellOf wsX6_cellOf ({ frames := 0, cells := 0, slots := 0, locals := 0 } : Room) (kPre D cy [.ref aW, .int x1] (wX6_cellOf cy aW qW aH vW vW_cells) sz) (kQi D cy zr A (wX6_cellOf cy aW qW aH vW vW_cells)) 0 0 A := by
  refine Met.ofW (cc := cX6_cellOf) (maxL := 2) (ret := (some .int)) (by decide) rfl ?_
  intro p e s m args below meth c s₁ B hml hv
  obtain ⟨rfl, hsz, hP, hK, hD0, hN⟩ := hv
  have hx := B.exec
  have hb := B.bytes
  have hr := B.returns
  have ht0 : ∀ w ∈ W0, w.before _ s = true := fun w h => atoms_spec (ws := wsX6_cellOf) B.pre w (List.mem_cons_of_mem _ h)
  have hown : s.vm.findClass RX6 = some m.cls := findClass_of_methodNamed B.named
  have hlocks := B.notSynchronized
  subst hsz
  have hD : va_D A (wX6_cellOf cy aW qW aH vW vW_cells) := by rw [← hAe]; exact hD0.self
  have hA : ∀ q : Nat, s.heap.size ≤ q → A q := fun q h => by rw [← hAe]; exact Or.inr h
  have hS : va_S A s.heap s.heap [] := va_S.rf
  have hl := lv_entry ([.ref aW, .int x1]) (n := 2) (Nat.le_of_ble_eq_true rfl)
  rw [lg_entry_eq]
  generalize (lg_sl ([.ref aW, .int x1]) ++ List.replicate (2 - (lg_sl ([.ref aW, .int x1])).length) Slot.unset).toArray = ls at hl ⊢
  have hl : lv_has ls 2 [(0, .ref aW), (1, .int x1)] := hl
  generalize hQe : MQ below (kQi D cy zr A (wX6_cellOf cy aW qW aH vW vW_cells)) ([.ref aW, .int x1] : List Value).toArray s 0 0 A = Q
  have J20 : ∀ (t0_20 : Int32), ∀ (H : Heap) (locs : List Loc) (ls : Array Slot), va_P D vwCl (wX6_cellOf cy aW qW aH vW vW_cells) H → va_D A (wX6_cellOf cy aW qW aH vW vW_cells) → va_S A s.heap H locs → lv_has ls 2 [] → fX6_cellOf_J20 t0_20 = some zr → W p l e ({ frames := 0, cells := 0, slots := 0, locals := 0 } : Room) s m ([.ref aW, .int x1] : List Value).toArray below meth c H locs 0 0 Q (F0 m 20 ls [.int t0_20]) := by
    intro t0_20 H locs ls hP hD hS hl hok
    unfold fX6_cellOf_J20 at hok
    cases hok
    subst hQe; exact W.iret hx hb hr (fun t ht hW => ⟨⟨_, (), rfl, rfl, by rw [ht]; exact hP, va_K.moved hW.alike hK, hD⟩, hS.F ht⟩) hS.2.2 dX6_cellOf_20
  have J19 : ∀ (H : Heap) (locs : List Loc) (ls : Array Slot), va_P D vwCl (wX6_cellOf cy aW qW aH vW vW_cells) H → va_D A (wX6_cellOf cy aW qW aH vW vW_cells) → va_S A s.heap H locs → lv_has ls 2 [] → fX6_cellOf_J19 = some zr → W p l e ({ frames := 0, cells := 0, slots := 0, locals := 0 } : Room) s m ([.ref aW, .int x1] : List Value).toArray below meth c H locs 0 0 Q (F0 m 19 ls []) := by
    intro  H locs ls hP hD hS hl hok
    unfold fX6_cellOf_J19 at hok
    refine lv_iconst (v := 0) hx hb dX6_cellOf_19 (by decide) ?_
    exact J20 (0 : Int32) H locs ls hP hD hS (lv_sub hl [] rfl) hok
  unfold fX6_cellOf at hok
  obtain ⟨H, hH⟩ : ∃ H, H = s.heap := ⟨_, rfl⟩
  obtain ⟨locs, hlc⟩ : ∃ x : List Loc, x = [] := ⟨_, rfl⟩
  have hP : va_P D vwCl (wX6_cellOf cy aW qW aH vW vW_cells) H := by rw [hH]; exact hP
  have hS : va_S A s.heap H locs := by rw [hH, hlc]; exact hS
  rw [show W p l e _ s m _ below meth c s.heap [] = W p l e _ s m _ below meth c H locs from by rw [hH, hlc]]
  refine lv_iload_n hx hb dX6_cellOf_0 rfl (lv_at hl 1 rfl) ?_
  refine lv_if_lt (tgt := 19) hx hb dX6_cellOf_1 (by decide) (fun c1 => ?_) (fun c1 => ?_)
  · have hok := k_pos c1 hok
    exact J19  H locs ls hP hD hS (lv_sub hl [] rfl) hok
  · have hok := k_neg c1 hok
    refine lv_iload_n hx hb dX6_cellOf_4 rfl (lv_at hl 1 rfl) ?_
    refine lv_bipush (v := 7) hx hb dX6_cellOf_5 (by decide) ?_
    refine lv_icmp_ge (tgt := 19) hx hb dX6_cellOf_7 (by decide) (fun c7 => ?_) (fun c7 => ?_)
    · have hok := k_pos c7 hok
      exact J19  H locs ls hP hD hS (lv_sub hl [] rfl) hok
    · have hok := k_neg c7 hok
      refine lv_aload_n hx hb dX6_cellOf_10 rfl (lv_at hl 0 rfl) ?_
      refine va_get (D := D) (ci := 5) (v := .ref (qW 0)) (C := RX6) (T := TX6) (N := 13) hx hb ht0 niX6 hown hK hP 0 rfl rfl 0 (by decide) (ht0 _ wd110) (fun _ h9 => h9) rfl dX6_cellOf_11 ?_
      refine lv_iload_n hx hb dX6_cellOf_14 rfl (lv_at hl 1 rfl) ?_
      obtain ⟨g15, hok⟩ := gd_some hok
      refine va_iald hx hb hK hP 1 0 rfl rfl (okI_in g15) dX6_cellOf_15 ?_
      refine lv_goto (tgt := 20) hx hb dX6_cellOf_16 (by decide) ?_
      exact J20 (vW_cells x1.toNatClampNeg) H locs ls hP hD hS (lv_sub hl [] rfl) hok
def wsX4_hasDoor : List Cond := .code yX4_hasDoor cX4_hasDoor 6 (some .boolean) :: W0
abbrev wX4_hasDoor (cy : Nat → ClassId) (aH : Nat) (qH : Nat → Nat) (vH : Nat → Int32) (vH_doorOne : Nat → Int32) (vH_doorTwo : Nat → Int32) : va_W := [(aH, oX4 vH qH), (qH 12, rI cy 5 vH_doorOne), (qH 13, rI cy 5 vH_doorTwo)]
set_option maxHeartbeats 4000000 in
set_option maxRecDepth 100000 in
theorem kX4_hasDoor (l : Launch) (D : va_G) (cy : Nat → ClassId) (sz : Nat) (aH : Nat) (qH : Nat → Nat) (vH : Nat → Int32) (vH_doorOne : Nat → Int32) (vH_doorTwo : Nat → Int32) (x1 : Int32) (x2 : Int32) (zr : Int32) (hok : fX4_hasDoor vH vH_doorOne vH_doorTwo x1 x2 = some zr) (A : Nat → Prop) (hAe : va_A (wX4_hasDoor cy aH qH vH vH_doorOne vH_doorTwo) sz = A) : Met l yX4_hasDoor wsX4_hasDoor ({ frames := 0, cells := 0, slots := 0, locals := 0 } : Room) (kPre D cy [.ref aH, .int x1, .int x2] (wX4_hasDoor cy aH qH vH vH_doorOne vH_doorTwo) sz) (kQi D cy zr A (wX4_hasDoor cy aH qH vH vH_doorOne vH_doorTwo)) 0 0 A := by
  refine Met.ofW (cc := cX4_hasDoor) (maxL := 6) (ret := (some .boolean)) (by decide) rfl ?_
  intro p e s m args below meth c s₁ B hml hv
  obtain ⟨rfl, hsz, hP, hK, hD0, hN⟩ := hv
  have hx := B.exec
  have hb := B.bytes
  have hr := B.returns
  have ht0 : ∀ w ∈ W0, w.before _ s = true := fun w h => atoms_spec (ws := wsX4_hasDoor) B.pre w (List.mem_cons_of_mem _ h)
  have hown : s.vm.findClass RX4 = some m.cls := findClass_of_methodNamed B.named
  have hlocks := B.notSynchronized
  subst hsz
  have hD : va_D A (wX4_hasDoor cy aH qH vH vH_doorOne vH_doorTwo) := by rw [← hAe]; exact hD0.self
  have hA : ∀ q : Nat, s.heap.size ≤ q → A q := fun q h => by rw [← hAe]; exact Or.inr h
  have hS : va_S A s.heap s.heap [] := va_S.rf
  have hl := lv_entry ([.ref aH, .int x1, .int x2]) (n := 6) (Nat.le_of_ble_eq_true rfl)
  rw [lg_entry_eq]
  generalize (lg_sl ([.ref aH, .int x1, .int x2]) ++ List.replicate (6 - (lg_sl ([.ref aH, .int x1, .int x2])).length) Slot.unset).toArray = ls at hl ⊢
  have hl : lv_has ls 6 [(0, .ref aH), (1, .int x1), (2, .int x2)] := hl
  generalize hQe : MQ below (kQi D cy zr A (wX4_hasDoor cy aH qH vH vH_doorOne vH_doorTwo)) ([.ref aH, .int x1, .int x2] : List Value).toArray s 0 0 A = Q
  have J87 : ∀ (H : Heap) (locs : List Loc) (ls : Array Slot), va_P D vwCl (wX4_hasDoor cy aH qH vH vH_doorOne vH_doorTwo) H → va_D A (wX4_hasDoor cy aH qH vH vH_doorOne vH_doorTwo) → va_S A s.heap H locs → lv_has ls 6 [] → fX4_hasDoor_J87 = some zr → W p l e ({ frames := 0, cells := 0, slots := 0, locals := 0 } : Room) s m ([.ref aH, .int x1, .int x2] : List Value).toArray below meth c H locs 0 0 Q (F0 m 87 ls []) := by
    intro  H locs ls hP hD hS hl hok
    unfold fX4_hasDoor_J87 at hok
    refine lv_iconst (v := 0) hx hb dX4_hasDoor_87 (by decide) ?_
    cases hok
    subst hQe; exact W.zret hx hb hr rfl (fun t ht hW => ⟨⟨_, (), rfl, rfl, by rw [ht]; exact hP, va_K.moved hW.alike hK, hD⟩, hS.F ht⟩) hS.2.2 dX4_hasDoor_88
  have J79 : ∀ (H : Heap) (locs : List Loc) (ls : Array Slot), va_P D vwCl (wX4_hasDoor cy aH qH vH vH_doorOne vH_doorTwo) H → va_D A (wX4_hasDoor cy aH qH vH vH_doorOne vH_doorTwo) → va_S A s.heap H locs → lv_has ls 6 [] → fX4_hasDoor_J79 = some zr → W p l e ({ frames := 0, cells := 0, slots := 0, locals := 0 } : Room) s m ([.ref aH, .int x1, .int x2] : List Value).toArray below meth c H locs 0 0 Q (F0 m 79 ls []) := by
    intro  H locs ls hP hD hS hl hok
    unfold fX4_hasDoor_J79 at hok
    refine lv_iconst (v := 1) hx hb dX4_hasDoor_79 (by decide) ?_
    cases hok
    subst hQe; exact W.zret hx hb hr rfl (fun t ht hW => ⟨⟨_, (), rfl, rfl, by rw [ht]; exact hP, va_K.moved hW.alike hK, hD⟩, hS.F ht⟩) hS.2.2 dX4_hasDoor_80
  have L2 : ∀ (fuel : Nat) (y3_2 : Int32), ∀ (H : Heap) (locs : List Loc) (ls : Array Slot), va_P D vwCl (wX4_hasDoor cy aH qH vH vH_doorOne vH_doorTwo) H → va_D A (wX4_hasDoor cy aH qH vH vH_doorOne vH_doorTwo) → va_S A s.heap H locs → lv_has ls 6 [(0, .ref aH), (1, .int x1), (2, .int x2), (3, .int y3_2)] → lp (fX4_hasDoor_B2 vH vH_doorOne vH_doorTwo x1 x2) fuel y3_2 = some zr → W p l e ({ frames := 0, cells := 0, slots := 0, locals := 0 } : Room) s m ([.ref aH, .int x1, .int x2] : List Value).toArray below meth c H locs 0 0 Q (F0 m 2 ls []) := by
    intro fuel
    induction fuel with
    | zero => intro y3_2 H locs ls hP hD hS hl hok; exact (lp_0 hok).elim
    | succ fuel ih2 =>
      intro y3_2 H locs ls hP hD hS hl hok
      obtain ⟨y2, hok, hL2, hR2⟩ := lp_step hok
      have J67 : ∀ (y4_67 : Int32) (t0_67 : Int32), ∀ (H : Heap) (locs : List Loc) (ls : Array Slot), va_P D vwCl (wX4_hasDoor cy aH qH vH vH_doorOne vH_doorTwo) H → va_D A (wX4_hasDoor cy aH qH vH vH_doorOne vH_doorTwo) → va_S A s.heap H locs → lv_has ls 6 [(0, .ref aH), (1, .int x1), (2, .int x2), (3, .int y3_2), (4, .int y4_67)] → fX4_hasDoor_J67 y3_2 y4_67 t0_67 = some y2 → W p l e ({ frames := 0, cells := 0, slots := 0, locals := 0 } : Room) s m ([.ref aH, .int x1, .int x2] : List Value).toArray below meth c H locs 0 0 Q (F0 m 67 ls [.int t0_67]) := by
        intro y4_67 t0_67 H locs ls hP hD hS hl hok
        unfold fX4_hasDoor_J67 at hok
        refine lv_istore (lv' := [(5, .int t0_67), (0, .ref aH), (1, .int x1), (2, .int x2), (3, .int y3_2), (4, .int y4_67)]) hx hb dX4_hasDoor_67 hl (by decide) rfl (fun ls hl => ?_)
        refine lv_iload hx hb dX4_hasDoor_69 (lv_at hl 5 rfl) ?_
        refine lv_if_ne (tgt := 79) hx hb dX4_hasDoor_71 (by decide) (fun c71 => ?_) (fun c71 => ?_)
        · have hok := k_neg c71 hok
          obtain ⟨e2, hok, he2⟩ := ex_some hok
          have hok := hok.trans (congrArg some (hL2 _ he2))
          exact J79  H locs ls hP hD hS (lv_sub hl [] rfl) hok
        · have hok := k_pos c71 hok
          refine lv_iload hx hb dX4_hasDoor_74 (lv_at hl 0 rfl) ?_
          refine lv_if_eq (tgt := 81) hx hb dX4_hasDoor_76 (by decide) (fun c76 => ?_) (fun c76 => ?_)
          · have hok := k_pos c76 hok
            refine lv_iinc (v := (y3_2 + 1)) (lv' := [(3, .int (y3_2 + 1)), (5, .int t0_67), (0, .ref aH), (1, .int x1), (2, .int x2), (4, .int y4_67)]) hx hb dX4_hasDoor_81 hl (k := 4) rfl (by first | rfl | decide) (by decide) rfl (fun ls hl => ?_)
            refine lv_goto (tgt := 2) hx hb dX4_hasDoor_84 (by decide) ?_
            exact ih2 (y3_2 + 1) H locs ls hP hD hS (lv_sub hl [2, 3, 4, 0] rfl) (hR2 _ (Option.some.inj hok).symm)
          · have hok := k_neg c76 hok
            obtain ⟨e2, hok, he2⟩ := ex_some hok
            have hok := hok.trans (congrArg some (hL2 _ he2))
            exact J79  H locs ls hP hD hS (lv_sub hl [] rfl) hok
      have J66 : ∀ (y4_66 : Int32), ∀ (H : Heap) (locs : List Loc) (ls : Array Slot), va_P D vwCl (wX4_hasDoor cy aH qH vH vH_doorOne vH_doorTwo) H → va_D A (wX4_hasDoor cy aH qH vH vH_doorOne vH_doorTwo) → va_S A s.heap H locs → lv_has ls 6 [(0, .ref aH), (1, .int x1), (2, .int x2), (3, .int y3_2), (4, .int y4_66)] → fX4_hasDoor_J66 y3_2 y4_66 = some y2 → W p l e ({ frames := 0, cells := 0, slots := 0, locals := 0 } : Room) s m ([.ref aH, .int x1, .int x2] : List Value).toArray below meth c H locs 0 0 Q (F0 m 66 ls []) := by
        intro y4_66 H locs ls hP hD hS hl hok
        unfold fX4_hasDoor_J66 at hok
        refine lv_iconst (v := 0) hx hb dX4_hasDoor_66 (by decide) ?_
        exact J67 y4_66 (0 : Int32) H locs ls hP hD hS (lv_sub hl [0, 1, 2, 3, 4] rfl) hok
      have J40 : ∀ (t0_40 : Int32), ∀ (H : Heap) (locs : List Loc) (ls : Array Slot), va_P D vwCl (wX4_hasDoor cy aH qH vH vH_doorOne vH_doorTwo) H → va_D A (wX4_hasDoor cy aH qH vH vH_doorOne vH_doorTwo) → va_S A s.heap H locs → lv_has ls 6 [(0, .ref aH), (1, .int x1), (2, .int x2), (3, .int y3_2)] → fX4_hasDoor_J40 vH_doorOne vH_doorTwo x1 x2 y3_2 t0_40 = some y2 → W p l e ({ frames := 0, cells := 0, slots := 0, locals := 0 } : Room) s m ([.ref aH, .int x1, .int x2] : List Value).toArray below meth c H locs 0 0 Q (F0 m 40 ls [.int t0_40]) := by
        intro t0_40 H locs ls hP hD hS hl hok
        unfold fX4_hasDoor_J40 at hok
        refine lv_istore (lv' := [(4, .int t0_40), (0, .ref aH), (1, .int x1), (2, .int x2), (3, .int y3_2)]) hx hb dX4_hasDoor_40 hl (by decide) rfl (fun ls hl => ?_)
        refine lv_aload_n hx hb dX4_hasDoor_42 rfl (lv_at hl 1 rfl) ?_
        refine va_get (D := D) (ci := 3) (v := .ref (qH 12)) (C := RX4) (T := TX4) (N := 20) hx hb ht0 niX4 hown hK hP 0 rfl rfl 12 (by decide) (ht0 _ wd159) (fun _ h9 => h9) rfl dX4_hasDoor_43 ?_
        refine lv_iload_n hx hb dX4_hasDoor_46 rfl (lv_at hl 4 rfl) ?_
        obtain ⟨g47, hok⟩ := gd_some hok
        refine va_iald hx hb hK hP 1 0 rfl rfl (okI_in g47) dX4_hasDoor_47 ?_
        refine lv_iload_n hx hb dX4_hasDoor_48 rfl (lv_at hl 3 rfl) ?_
        refine lv_icmp_ne (tgt := 66) hx hb dX4_hasDoor_49 (by decide) (fun c49 => ?_) (fun c49 => ?_)
        · have hok := k_neg c49 hok
          exact J66 t0_40 H locs ls hP hD hS (lv_sub hl [1, 2, 3, 4, 0] rfl) hok
        · have hok := k_pos c49 hok
          refine lv_aload_n hx hb dX4_hasDoor_52 rfl (lv_at hl 1 rfl) ?_
          refine va_get (D := D) (ci := 3) (v := .ref (qH 13)) (C := RX4) (T := TX4) (N := 20) hx hb ht0 niX4 hown hK hP 0 rfl rfl 13 (by decide) (ht0 _ wd160) (fun _ h9 => h9) rfl dX4_hasDoor_53 ?_
          refine lv_iload_n hx hb dX4_hasDoor_56 rfl (lv_at hl 4 rfl) ?_
          obtain ⟨g57, hok⟩ := gd_some hok
          refine va_iald hx hb hK hP 2 0 rfl rfl (okI_in g57) dX4_hasDoor_57 ?_
          refine lv_iload_n hx hb dX4_hasDoor_58 rfl (lv_at hl 2 rfl) ?_
          refine lv_icmp_ne (tgt := 66) hx hb dX4_hasDoor_59 (by decide) (fun c59 => ?_) (fun c59 => ?_)
          · have hok := k_neg c59 hok
            exact J66 t0_40 H locs ls hP hD hS (lv_sub hl [1, 2, 3, 4, 0] rfl) hok
          · have hok := k_pos c59 hok
            refine lv_iconst (v := 1) hx hb dX4_hasDoor_62 (by decide) ?_
            refine lv_goto (tgt := 67) hx hb dX4_hasDoor_63 (by decide) ?_
            exact J67 t0_40 (1 : Int32) H locs ls hP hD hS (lv_sub hl [1, 2, 3, 4, 0] rfl) hok
      have J39 : ∀ (H : Heap) (locs : List Loc) (ls : Array Slot), va_P D vwCl (wX4_hasDoor cy aH qH vH vH_doorOne vH_doorTwo) H → va_D A (wX4_hasDoor cy aH qH vH vH_doorOne vH_doorTwo) → va_S A s.heap H locs → lv_has ls 6 [(0, .ref aH), (1, .int x1), (2, .int x2), (3, .int y3_2)] → fX4_hasDoor_J39 vH_doorOne vH_doorTwo x1 x2 y3_2 = some y2 → W p l e ({ frames := 0, cells := 0, slots := 0, locals := 0 } : Room) s m ([.ref aH, .int x1, .int x2] : List Value).toArray below meth c H locs 0 0 Q (F0 m 39 ls []) := by
        intro  H locs ls hP hD hS hl hok
        unfold fX4_hasDoor_J39 at hok
        refine lv_iconst (v := 0) hx hb dX4_hasDoor_39 (by decide) ?_
        exact J40 (0 : Int32) H locs ls hP hD hS (lv_sub hl [0, 1, 2, 3] rfl) hok
      unfold fX4_hasDoor_B2 at hok
      refine lv_iload_n hx hb dX4_hasDoor_2 rfl (lv_at hl 3 rfl) ?_
      refine lv_aload_n hx hb dX4_hasDoor_3 rfl (lv_at hl 0 rfl) ?_
      refine va_get (D := D) (ci := 3) (v := .int (vH 4)) (C := RX4) (T := TX4) (N := 20) hx hb ht0 niX4 hown hK hP 0 rfl rfl 4 (by decide) (ht0 _ wd161) (fun _ h9 => h9) rfl dX4_hasDoor_4 ?_
      refine lv_icmp_ge (tgt := 87) hx hb dX4_hasDoor_7 (by decide) (fun c7 => ?_) (fun c7 => ?_)
      · have hok := k_pos c7 hok
        obtain ⟨e2, hok, he2⟩ := ex_some hok
        have hok := hok.trans (congrArg some (hL2 _ he2))
        exact J87  H locs ls hP hD hS (lv_sub hl [] rfl) hok
      · have hok := k_neg c7 hok
        refine lv_iload_n hx hb dX4_hasDoor_10 rfl (lv_at hl 3 rfl) ?_
        refine lv_iconst (v := 5) hx hb dX4_hasDoor_11 (by decide) ?_
        refine lv_icmp_ge (tgt := 87) hx hb dX4_hasDoor_12 (by decide) (fun c12 => ?_) (fun c12 => ?_)
        · have hok := k_pos c12 hok
          obtain ⟨e2, hok, he2⟩ := ex_some hok
          have hok := hok.trans (congrArg some (hL2 _ he2))
          exact J87  H locs ls hP hD hS (lv_sub hl [] rfl) hok
        · have hok := k_neg c12 hok
          refine lv_aload_n hx hb dX4_hasDoor_15 rfl (lv_at hl 0 rfl) ?_
          refine va_get (D := D) (ci := 3) (v := .ref (qH 12)) (C := RX4) (T := TX4) (N := 20) hx hb ht0 niX4 hown hK hP 0 rfl rfl 12 (by decide) (ht0 _ wd159) (fun _ h9 => h9) rfl dX4_hasDoor_16 ?_
          refine lv_iload_n hx hb dX4_hasDoor_19 rfl (lv_at hl 3 rfl) ?_
          obtain ⟨g20, hok⟩ := gd_some hok
          refine va_iald hx hb hK hP 1 0 rfl rfl (okI_in g20) dX4_hasDoor_20 ?_
          refine lv_iload_n hx hb dX4_hasDoor_21 rfl (lv_at hl 1 rfl) ?_
          refine lv_icmp_ne (tgt := 39) hx hb dX4_hasDoor_22 (by decide) (fun c22 => ?_) (fun c22 => ?_)
          · have hok := k_neg c22 hok
            exact J39  H locs ls hP hD hS (lv_sub hl [0, 1, 2, 3] rfl) hok
          · have hok := k_pos c22 hok
            refine lv_aload_n hx hb dX4_hasDoor_25 rfl (lv_at hl 0 rfl) ?_
            refine va_get (D := D) (ci := 3) (v := .ref (qH 13)) (C := RX4) (T := TX4) (N := 20) hx hb ht0 niX4 hown hK hP 0 rfl rfl 13 (by decide) (ht0 _ wd160) (fun _ h9 => h9) rfl dX4_hasDoor_26 ?_
            refine lv_iload_n hx hb dX4_hasDoor_29 rfl (lv_at hl 3 rfl) ?_
            obtain ⟨g30, hok⟩ := gd_some hok
            refine va_iald hx hb hK hP 2 0 rfl rfl (okI_in g30) dX4_hasDoor_30 ?_
            refine lv_iload_n hx hb dX4_hasDoor_31 rfl (lv_at hl 2 rfl) ?_
            refine lv_icmp_ne (tgt := 39) hx hb dX4_hasDoor_32 (by decide) (fun c32 => ?_) (fun c32 => ?_)
            · have hok := k_neg c32 hok
              exact J39  H locs ls hP hD hS (lv_sub hl [0, 1, 2, 3] rfl) hok
            · have hok := k_pos c32 hok
              refine lv_iconst (v := 1) hx hb dX4_hasDoor_35 (by decide) ?_
              refine lv_goto (tgt := 40) hx hb dX4_hasDoor_36 (by decide) ?_
              exact J40 (1 : Int32) H locs ls hP hD hS (lv_sub hl [0, 1, 2, 3] rfl) hok
  unfold fX4_hasDoor at hok
  obtain ⟨H, hH⟩ : ∃ H, H = s.heap := ⟨_, rfl⟩
  obtain ⟨locs, hlc⟩ : ∃ x : List Loc, x = [] := ⟨_, rfl⟩
  have hP : va_P D vwCl (wX4_hasDoor cy aH qH vH vH_doorOne vH_doorTwo) H := by rw [hH]; exact hP
  have hS : va_S A s.heap H locs := by rw [hH, hlc]; exact hS
  rw [show W p l e _ s m _ below meth c s.heap [] = W p l e _ s m _ below meth c H locs from by rw [hH, hlc]]
  refine lv_iconst (v := 0) hx hb dX4_hasDoor_0 (by decide) ?_
  refine lv_istore_n (lv' := [(3, .int 0), (0, .ref aH), (1, .int x1), (2, .int x2)]) hx hb dX4_hasDoor_1 rfl hl (by decide) rfl (fun ls hl => ?_)
  exact L2 5000 (0 : Int32) H locs ls hP hD hS (lv_sub hl [1, 2, 3, 0] rfl) hok
def wsX6_atDoor : List Cond := .code yX6_atDoor cX6_atDoor 3 (some .boolean) :: W0
abbrev wX6_atDoor (cy : Nat → ClassId) (aW : Nat) (qW : Nat → Nat) (aH : Nat) (qH : Nat → Nat) (vW : Nat → Int32) (vW_cells : Nat → Int32) (vH : Nat → Int32) (vH_doorOne : Nat → Int32) (vH_doorTwo : Nat → Int32) : va_W := [(aW, oX6 vW qW aH), (qW 0, rI cy 7 vW_cells), (aH, oX4 vH qH), (qH 12, rI cy 5 vH_doorOne), (qH 13, rI cy 5 vH_doorTwo)]
set_option maxHeartbeats 4000000 in
set_option maxRecDepth 100000 in
theorem kX6_atDoor (l : Launch) (D : va_G) (cy : Nat → ClassId) (sz : Nat) (aW : Nat) (qW : Nat → Nat) (aH : Nat) (qH : Nat → Nat) (vW : Nat → Int32) (vW_cells : Nat → Int32) (vH : Nat → Int32) (vH_doorOne : Nat → Int32) (vH_doorTwo : Nat → Int32) (x1 : Int32) (x2 : Int32) (zr : Int32) (hok : fX6_atDoor vW vW_cells vH vH_doorOne vH_doorTwo x1 x2 = some zr) (A : Nat → Prop) (hAe : va_A (wX6_atDoor cy aW qW aH qH vW vW_cells vH vH_doorOne vH_doorTwo) sz = A) : Met l yX6_atDoor wsX6_atDoor ({ frames := 1, cells := 0, slots := 0, locals := 25 } : Room) (kPre D cy [.ref aW, .int x1, .int x2] (wX6_atDoor cy aW qW aH qH vW vW_cells vH vH_doorOne vH_doorTwo) sz) (kQi D cy zr A (wX6_atDoor cy aW qW aH qH vW vW_cells vH vH_doorOne vH_doorTwo)) 0 0 A := by
  refine Met.ofW (cc := cX6_atDoor) (maxL := 3) (ret := (some .boolean)) (by decide) rfl ?_
  intro p e s m args below meth c s₁ B hml hv
  obtain ⟨rfl, hsz, hP, hK, hD0, hN⟩ := hv
  have hx := B.exec
  have hb := B.bytes
  have hr := B.returns
  have ht0 : ∀ w ∈ W0, w.before _ s = true := fun w h => atoms_spec (ws := wsX6_atDoor) B.pre w (List.mem_cons_of_mem _ h)
  have hown : s.vm.findClass RX6 = some m.cls := findClass_of_methodNamed B.named
  have hlocks := B.notSynchronized
  subst hsz
  have hD : va_D A (wX6_atDoor cy aW qW aH qH vW vW_cells vH vH_doorOne vH_doorTwo) := by rw [← hAe]; exact hD0.self
  have hA : ∀ q : Nat, s.heap.size ≤ q → A q := fun q h => by rw [← hAe]; exact Or.inr h
  have hS : va_S A s.heap s.heap [] := va_S.rf
  have hl := lv_entry ([.ref aW, .int x1, .int x2]) (n := 3) (Nat.le_of_ble_eq_true rfl)
  rw [lg_entry_eq]
  generalize (lg_sl ([.ref aW, .int x1, .int x2]) ++ List.replicate (3 - (lg_sl ([.ref aW, .int x1, .int x2])).length) Slot.unset).toArray = ls at hl ⊢
  have hl : lv_has ls 3 [(0, .ref aW), (1, .int x1), (2, .int x2)] := hl
  unfold fX6_atDoor at hok
  obtain ⟨H, hH⟩ : ∃ H, H = s.heap := ⟨_, rfl⟩
  obtain ⟨locs, hlc⟩ : ∃ x : List Loc, x = [] := ⟨_, rfl⟩
  have hP : va_P D vwCl (wX6_atDoor cy aW qW aH qH vW vW_cells vH vH_doorOne vH_doorTwo) H := by rw [hH]; exact hP
  have hS : va_S A s.heap H locs := by rw [hH, hlc]; exact hS
  rw [show W p l e _ s m _ below meth c s.heap [] = W p l e _ s m _ below meth c H locs from by rw [hH, hlc]]
  refine lv_aload_n hx hb dX6_atDoor_0 rfl (lv_at hl 0 rfl) ?_
  refine va_get (D := D) (ci := 5) (v := .ref aH) (C := RX6) (T := TX6) (N := 13) hx hb ht0 niX6 hown hK hP 0 rfl rfl 4 (by decide) (ht0 _ wd101) (fun _ h9 => h9) rfl dX6_atDoor_1 ?_
  refine lv_aload_n hx hb dX6_atDoor_4 rfl (lv_at hl 0 rfl) ?_
  refine lv_iload_n hx hb dX6_atDoor_5 rfl (lv_at hl 1 rfl) ?_
  obtain ⟨r6, hc6, hok⟩ := k_bind hok
  refine kCi (wc := (wX6_cellOf cy aW qW aH vW vW_cells)) (wc2 := (wX6_cellOf cy aW qW aH vW vW_cells)) (wr := [(aH, oX4 vH qH), (qH 12, rI cy 5 vH_doorOne), (qH 13, rI cy 5 vH_doorTwo)]) (ws2 := (wX6_atDoor cy aW qW aH qH vW vW_cells vH vH_doorOne vH_doorTwo)) (kRunV (As := [.int x1]) (rest := [.ref aH]) ⟨hx, hb, hml, hown, ht0⟩ (kX6_cellOf l D cy _ aW qW aH vW vW_cells x1 r6 hc6 _ rfl) (cwV 1 ht0 (gV wd162 wd163 wd164 wd114 wd165) rfl rfl rfl (by decide +kernel) ⟨Nat.le_of_ble_eq_true rfl, Nat.le_of_ble_eq_true rfl⟩) hK hN hP hD [0, 1] rfl (by decide) 0 5 rfl rfl rfl hl.1 rfl (Nat.le_of_ble_eq_true rfl) dX6_atDoor_6 ⟨Nat.zero_le _, Nat.zero_le _⟩) hP hD hS hA [0, 1] [2, 3, 4] rfl rfl (by decide) (by decide) [3, 4, 0, 1, 2] (by decide) rfl rfl (fun H locs hP hD hS => ?_)
  refine lv_aload_n hx hb dX6_atDoor_9 rfl (lv_at hl 0 rfl) ?_
  refine lv_iload_n hx hb dX6_atDoor_10 rfl (lv_at hl 2 rfl) ?_
  obtain ⟨r11, hc11, hok⟩ := k_bind hok
  refine kCi (wc := (wX6_cellOf cy aW qW aH vW vW_cells)) (wc2 := (wX6_cellOf cy aW qW aH vW vW_cells)) (wr := [(aH, oX4 vH qH), (qH 12, rI cy 5 vH_doorOne), (qH 13, rI cy 5 vH_doorTwo)]) (ws2 := (wX6_atDoor cy aW qW aH qH vW vW_cells vH vH_doorOne vH_doorTwo)) (kRunV (As := [.int x2]) (rest := [.int r6, .ref aH]) ⟨hx, hb, hml, hown, ht0⟩ (kX6_cellOf l D cy _ aW qW aH vW vW_cells x2 r11 hc11 _ rfl) (cwV 1 ht0 (gV wd162 wd163 wd164 wd114 wd165) rfl rfl rfl (by decide +kernel) ⟨Nat.le_of_ble_eq_true rfl, Nat.le_of_ble_eq_true rfl⟩) hK hN hP hD [0, 1] rfl (by decide) 0 5 rfl rfl rfl hl.1 rfl (Nat.le_of_ble_eq_true rfl) dX6_atDoor_11 ⟨Nat.zero_le _, Nat.zero_le _⟩) hP hD hS hA [0, 1] [2, 3, 4] rfl rfl (by decide) (by decide) [3, 4, 0, 1, 2] (by decide) rfl rfl (fun H locs hP hD hS => ?_)
  obtain ⟨r14, hc14, hok⟩ := k_bind hok
  refine kCi (wc := (wX4_hasDoor cy aH qH vH vH_doorOne vH_doorTwo)) (wc2 := (wX4_hasDoor cy aH qH vH vH_doorOne vH_doorTwo)) (wr := [(aW, oX6 vW qW aH), (qW 0, rI cy 7 vW_cells)]) (ws2 := (wX6_atDoor cy aW qW aH qH vW vW_cells vH vH_doorOne vH_doorTwo)) (kRunV (As := [.int r6, .int r11]) (rest := []) ⟨hx, hb, hml, hown, ht0⟩ (kX4_hasDoor l D cy _ aH qH vH vH_doorOne vH_doorTwo r6 r11 r14 hc14 _ rfl) (cwV 2 ht0 (gV wd166 wd167 wd168 wd9 wd169) rfl rfl rfl (by decide +kernel) ⟨Nat.le_of_ble_eq_true rfl, Nat.le_of_ble_eq_true rfl⟩) hK hN hP hD [2, 3, 4] rfl (by decide) 2 3 rfl rfl rfl hl.1 rfl (Nat.le_of_ble_eq_true rfl) dX6_atDoor_14 ⟨Nat.zero_le _, Nat.zero_le _⟩) hP hD hS hA [2, 3, 4] [0, 1] rfl rfl (by decide) (by decide) [0, 1, 2, 3, 4] (by decide) rfl rfl (fun H locs hP hD hS => ?_)
  obtain ⟨g17, hok⟩ := gd_some hok
  cases hok
  exact W.zret hx hb hr (isB_nar g17) (fun t ht hW => ⟨⟨_, (), rfl, rfl, by rw [ht]; exact hP, va_K.moved hW.alike hK, hD⟩, hS.F ht⟩) hS.2.2 dX6_atDoor_17
def wsX3_isReached : List Cond := .code yX3_isReached cX3_isReached 4 (some .boolean) :: W0
abbrev wX3_isReached (cy : Nat → ClassId) (aG : Nat) (qG : Nat → Nat) (qW : Nat → Nat) (aH : Nat) (qH : Nat → Nat) (vG : Nat → Int32) (vW : Nat → Int32) (vW_cells : Nat → Int32) (vH : Nat → Int32) (vH_doorOne : Nat → Int32) (vH_doorTwo : Nat → Int32) : va_W := [(aG, oX3 vG qG), (qG 0, oX6 vW qW aH), (qW 0, rI cy 7 vW_cells), (aH, oX4 vH qH), (qH 12, rI cy 5 vH_doorOne), (qH 13, rI cy 5 vH_doorTwo)]
set_option maxHeartbeats 4000000 in
set_option maxRecDepth 100000 in
theorem kX3_isReached (l : Launch) (D : va_G) (cy : Nat → ClassId) (sz : Nat) (aG : Nat) (qG : Nat → Nat) (qW : Nat → Nat) (aH : Nat) (qH : Nat → Nat) (vG : Nat → Int32) (vW : Nat → Int32) (vW_cells : Nat → Int32) (vH : Nat → Int32) (vH_doorOne : Nat → Int32) (vH_doorTwo : Nat → Int32) (x1 : Int32) (x2 : Int32) (x3 : Int32) (zr : Int32) (hok : fX3_isReached vG vW vW_cells vH vH_doorOne vH_doorTwo x1 x2 x3 = some zr) (A : Nat → Prop) (hAe : va_A (wX3_isReached cy aG qG qW aH qH vG vW vW_cells vH vH_doorOne vH_doorTwo) sz = A) : Met l yX3_isReached wsX3_isReached ({ frames := 2, cells := 0, slots := 0, locals := 47 } : Room) (kPre D cy [.ref aG, .int x1, .int x2, .int x3] (wX3_isReached cy aG qG qW aH qH vG vW vW_cells vH vH_doorOne vH_doorTwo) sz) (kQi D cy zr A (wX3_isReached cy aG qG qW aH qH vG vW vW_cells vH vH_doorOne vH_doorTwo)) 0 0 A := by
  refine Met.ofW (cc := cX3_isReached) (maxL := 4) (ret := (some .boolean)) (by decide) rfl ?_
  intro p e s m args below meth c s₁ B hml hv
  obtain ⟨rfl, hsz, hP, hK, hD0, hN⟩ := hv
  have hx := B.exec
  have hb := B.bytes
  have hr := B.returns
  have ht0 : ∀ w ∈ W0, w.before _ s = true := fun w h => atoms_spec (ws := wsX3_isReached) B.pre w (List.mem_cons_of_mem _ h)
  have hown : s.vm.findClass RX3 = some m.cls := findClass_of_methodNamed B.named
  have hlocks := B.notSynchronized
  subst hsz
  have hD : va_D A (wX3_isReached cy aG qG qW aH qH vG vW vW_cells vH vH_doorOne vH_doorTwo) := by rw [← hAe]; exact hD0.self
  have hA : ∀ q : Nat, s.heap.size ≤ q → A q := fun q h => by rw [← hAe]; exact Or.inr h
  have hS : va_S A s.heap s.heap [] := va_S.rf
  have hl := lv_entry ([.ref aG, .int x1, .int x2, .int x3]) (n := 4) (Nat.le_of_ble_eq_true rfl)
  rw [lg_entry_eq]
  generalize (lg_sl ([.ref aG, .int x1, .int x2, .int x3]) ++ List.replicate (4 - (lg_sl ([.ref aG, .int x1, .int x2, .int x3])).length) Slot.unset).toArray = ls at hl ⊢
  have hl : lv_has ls 4 [(0, .ref aG), (1, .int x1), (2, .int x2), (3, .int x3)] := hl
  generalize hQe : MQ below (kQi D cy zr A (wX3_isReached cy aG qG qW aH qH vG vW vW_cells vH vH_doorOne vH_doorTwo)) ([.ref aG, .int x1, .int x2, .int x3] : List Value).toArray s 0 0 A = Q
  have J34 : ∀ (t0_34 : Int32), ∀ (H : Heap) (locs : List Loc) (ls : Array Slot), va_P D vwCl (wX3_isReached cy aG qG qW aH qH vG vW vW_cells vH vH_doorOne vH_doorTwo) H → va_D A (wX3_isReached cy aG qG qW aH qH vG vW vW_cells vH vH_doorOne vH_doorTwo) → va_S A s.heap H locs → lv_has ls 4 [] → fX3_isReached_J34 t0_34 = some zr → W p l e ({ frames := 2, cells := 0, slots := 0, locals := 47 } : Room) s m ([.ref aG, .int x1, .int x2, .int x3] : List Value).toArray below meth c H locs 0 0 Q (F0 m 34 ls [.int t0_34]) := by
    intro t0_34 H locs ls hP hD hS hl hok
    unfold fX3_isReached_J34 at hok
    obtain ⟨g34, hok⟩ := gd_some hok
    cases hok
    subst hQe; exact W.zret hx hb hr (isB_nar g34) (fun t ht hW => ⟨⟨_, (), rfl, rfl, by rw [ht]; exact hP, va_K.moved hW.alike hK, hD⟩, hS.F ht⟩) hS.2.2 dX3_isReached_34
  unfold fX3_isReached at hok
  obtain ⟨H, hH⟩ : ∃ H, H = s.heap := ⟨_, rfl⟩
  obtain ⟨locs, hlc⟩ : ∃ x : List Loc, x = [] := ⟨_, rfl⟩
  have hP : va_P D vwCl (wX3_isReached cy aG qG qW aH qH vG vW vW_cells vH vH_doorOne vH_doorTwo) H := by rw [hH]; exact hP
  have hS : va_S A s.heap H locs := by rw [hH, hlc]; exact hS
  rw [show W p l e _ s m _ below meth c s.heap [] = W p l e _ s m _ below meth c H locs from by rw [hH, hlc]]
  refine lv_iload_n hx hb dX3_isReached_0 rfl (lv_at hl 1 rfl) ?_
  refine lv_iload_n hx hb dX3_isReached_1 rfl (lv_at hl 2 rfl) ?_
  refine lv_icmp_ne (tgt := 25) hx hb dX3_isReached_2 (by decide) (fun c2 => ?_) (fun c2 => ?_)
  · have hok := k_neg c2 hok
    refine lv_aload_n hx hb dX3_isReached_25 rfl (lv_at hl 0 rfl) ?_
    refine va_get (D := D) (ci := 2) (v := .ref (qG 0)) (C := RX3) (T := TX3) (N := 1) hx hb ht0 niX3 hown hK hP 0 rfl rfl 0 (by decide) (ht0 _ wd170) (fun _ h9 => h9) rfl dX3_isReached_26 ?_
    refine lv_iload_n hx hb dX3_isReached_29 rfl (lv_at hl 1 rfl) ?_
    refine lv_iload_n hx hb dX3_isReached_30 rfl (lv_at hl 2 rfl) ?_
    obtain ⟨r31, hc31, hok⟩ := k_bind hok
    refine kCi (wc := (wX6_atDoor cy (qG 0) qW aH qH vW vW_cells vH vH_doorOne vH_doorTwo)) (wc2 := (wX6_atDoor cy (qG 0) qW aH qH vW vW_cells vH vH_doorOne vH_doorTwo)) (wr := [(aG, oX3 vG qG)]) (ws2 := (wX3_isReached cy aG qG qW aH qH vG vW vW_cells vH vH_doorOne vH_doorTwo)) (kRunV (As := [.int x1, .int x2]) (rest := []) ⟨hx, hb, hml, hown, ht0⟩ (kX6_atDoor l D cy _ (qG 0) qW aH qH vW vW_cells vH vH_doorOne vH_doorTwo x1 x2 r31 hc31 _ rfl) (cwV 2 ht0 (gV wd171 wd172 wd173 wd114 wd174) rfl rfl rfl (by decide +kernel) ⟨Nat.le_of_ble_eq_true rfl, Nat.le_of_ble_eq_true rfl⟩) hK hN hP hD [1, 2, 3, 4, 5] rfl (by decide) 1 5 rfl rfl rfl hl.1 rfl (Nat.le_of_ble_eq_true rfl) dX3_isReached_31 ⟨Nat.zero_le _, Nat.zero_le _⟩) hP hD hS hA [1, 2, 3, 4, 5] [0] rfl rfl (by decide) (by decide) [0, 1, 2, 3, 4, 5] (by decide) rfl rfl (fun H locs hP hD hS => ?_)
    exact J34 r31 H locs ls hP hD hS (lv_sub hl [] rfl) hok
  · have hok := k_pos c2 hok
    refine lv_aload_n hx hb dX3_isReached_5 rfl (lv_at hl 0 rfl) ?_
    refine va_get (D := D) (ci := 2) (v := .ref (qG 0)) (C := RX3) (T := TX3) (N := 1) hx hb ht0 niX3 hown hK hP 0 rfl rfl 0 (by decide) (ht0 _ wd170) (fun _ h9 => h9) rfl dX3_isReached_6 ?_
    refine lv_iload_n hx hb dX3_isReached_9 rfl (lv_at hl 1 rfl) ?_
    obtain ⟨r10, hc10, hok⟩ := k_bind hok
    refine kCi (wc := (wX6_cellOf cy (qG 0) qW aH vW vW_cells)) (wc2 := (wX6_cellOf cy (qG 0) qW aH vW vW_cells)) (wr := [(aG, oX3 vG qG), (aH, oX4 vH qH), (qH 12, rI cy 5 vH_doorOne), (qH 13, rI cy 5 vH_doorTwo)]) (ws2 := (wX3_isReached cy aG qG qW aH qH vG vW vW_cells vH vH_doorOne vH_doorTwo)) (kRunV (As := [.int x1]) (rest := []) ⟨hx, hb, hml, hown, ht0⟩ (kX6_cellOf l D cy _ (qG 0) qW aH vW vW_cells x1 r10 hc10 _ rfl) (cwV 1 ht0 (gV wd175 wd163 wd164 wd114 wd165) rfl rfl rfl (by decide +kernel) ⟨Nat.le_of_ble_eq_true rfl, Nat.le_of_ble_eq_true rfl⟩) hK hN hP hD [1, 2] rfl (by decide) 1 5 rfl rfl rfl hl.1 rfl (Nat.le_of_ble_eq_true rfl) dX3_isReached_10 ⟨Nat.zero_le _, Nat.zero_le _⟩) hP hD hS hA [1, 2] [0, 3, 4, 5] rfl rfl (by decide) (by decide) [0, 4, 5, 1, 2, 3] (by decide) rfl rfl (fun H locs hP hD hS => ?_)
    refine lv_iload_n hx hb dX3_isReached_13 rfl (lv_at hl 3 rfl) ?_
    refine lv_icmp_ne (tgt := 21) hx hb dX3_isReached_14 (by decide) (fun c14 => ?_) (fun c14 => ?_)
    · have hok := k_neg c14 hok
      refine lv_iconst (v := 0) hx hb dX3_isReached_21 (by decide) ?_
      refine lv_goto (tgt := 34) hx hb dX3_isReached_22 (by decide) ?_
      exact J34 (0 : Int32) H locs ls hP hD hS (lv_sub hl [] rfl) hok
    · have hok := k_pos c14 hok
      refine lv_iconst (v := 1) hx hb dX3_isReached_17 (by decide) ?_
      refine lv_goto (tgt := 34) hx hb dX3_isReached_18 (by decide) ?_
      exact J34 (1 : Int32) H locs ls hP hD hS (lv_sub hl [] rfl) hok
def wsX3_fewest : List Cond := .code yX3_fewest cX3_fewest 11 (some .int) :: W0
abbrev wX3_fewest (cy : Nat → ClassId) (aG : Nat) (aH : Nat) (aD : Nat) (qD : Nat → Nat) (qH : Nat → Nat) (qG : Nat → Nat) (qW : Nat → Nat) (aH0 : Nat) (vD : Nat → Int32) (vD_now : Nat → Int32) (vH : Nat → Int32) (vH_kinds : Nat → Int32) (vG : Nat → Int32) (vW : Nat → Int32) (vW_who : Nat → Int32) (vW_cells : Nat → Int32) (vH_sorts : Nat → Int32) (vH_next : Nat → Int32) (vW_inFront : Nat → Int32) (vH_sizes : Nat → Int32) (vH_width : Nat → Int32) (vH_doorOne : Nat → Int32) (vH_doorTwo : Nat → Int32) : va_W := [(aD, oX1 vD qD), (qD 0, rI cy 9 vD_now), (aH, oX4 vH qH), (qH 14, rI cy 7 vH_kinds), (aG, oX3 vG qG), (qG 0, oX6 vW qW aH0), (qW 1, rI cy 36 vW_who), (qW 0, rI cy 7 vW_cells), (qH 8, rI cy 4 vH_sorts), (qH 10, rI cy 36 vH_next), (qW 2, rI cy 7 vW_inFront), (qH 15, rI cy 7 vH_sizes), (qH 11, rI cy 36 vH_width), (qH 12, rI cy 5 vH_doorOne), (qH 13, rI cy 5 vH_doorTwo)]
set_option maxHeartbeats 4000000 in
set_option maxRecDepth 100000 in
theorem kX3_fewest (l : Launch) (D : va_G) (cy : Nat → ClassId) (sz : Nat) (aG : Nat) (aH : Nat) (aD : Nat) (qD : Nat → Nat) (qH : Nat → Nat) (qG : Nat → Nat) (qW : Nat → Nat) (aH0 : Nat) (vD : Nat → Int32) (vD_now : Nat → Int32) (vH : Nat → Int32) (vH_kinds : Nat → Int32) (vG : Nat → Int32) (vW : Nat → Int32) (vW_who : Nat → Int32) (vW_cells : Nat → Int32) (vH_sorts : Nat → Int32) (vH_next : Nat → Int32) (vW_inFront : Nat → Int32) (vH_sizes : Nat → Int32) (vH_width : Nat → Int32) (vH_doorOne : Nat → Int32) (vH_doorTwo : Nat → Int32) (x3 : Int32) (x4 : Int32) (x5 : Int32) (x6 : Int32) (zr : Int32) (z_vW : Nat → Int32) (z_vW_who : Nat → Int32) (z_vW_cells : Nat → Int32) (z_vW_inFront : Nat → Int32) (z_aH0 : Nat) (hok : fX3_fewest aH aH0 vD vD_now vH vH_kinds vG vW vW_who vW_cells vH_sorts vH_next vW_inFront vH_sizes vH_width vH_doorOne vH_doorTwo x3 x4 x5 x6 = some (zr, z_vW, z_vW_who, z_vW_cells, z_vW_inFront, z_aH0)) (A : Nat → Prop) (hAe : va_A (wX3_fewest cy aG aH aD qD qH qG qW aH0 vD vD_now vH vH_kinds vG vW vW_who vW_cells vH_sorts vH_next vW_inFront vH_sizes vH_width vH_doorOne vH_doorTwo) sz = A) : Met l yX3_fewest wsX3_fewest ({ frames := 4, cells := 0, slots := 0, locals := 96 } : Room) (kPre D cy [.ref aG, .ref aH, .ref aD, .int x3, .int x4, .int x5, .int x6] (wX3_fewest cy aG aH aD qD qH qG qW aH0 vD vD_now vH vH_kinds vG vW vW_who vW_cells vH_sorts vH_next vW_inFront vH_sizes vH_width vH_doorOne vH_doorTwo) sz) (kQi D cy zr A (wX3_fewest cy aG aH aD qD qH qG qW z_aH0 vD vD_now vH vH_kinds vG z_vW z_vW_who z_vW_cells vH_sorts vH_next z_vW_inFront vH_sizes vH_width vH_doorOne vH_doorTwo)) 0 0 A := by
  refine Met.ofW (cc := cX3_fewest) (maxL := 11) (ret := (some .int)) (by decide) rfl ?_
  intro p e s m args below meth c s₁ B hml hv
  obtain ⟨rfl, hsz, hP, hK, hD0, hN⟩ := hv
  have hx := B.exec
  have hb := B.bytes
  have hr := B.returns
  have ht0 : ∀ w ∈ W0, w.before _ s = true := fun w h => atoms_spec (ws := wsX3_fewest) B.pre w (List.mem_cons_of_mem _ h)
  have hown : s.vm.findClass RX3 = some m.cls := findClass_of_methodNamed B.named
  have hlocks := B.notSynchronized
  subst hsz
  have hD : va_D A (wX3_fewest cy aG aH aD qD qH qG qW aH0 vD vD_now vH vH_kinds vG vW vW_who vW_cells vH_sorts vH_next vW_inFront vH_sizes vH_width vH_doorOne vH_doorTwo) := by rw [← hAe]; exact hD0.self
  have hA : ∀ q : Nat, s.heap.size ≤ q → A q := fun q h => by rw [← hAe]; exact Or.inr h
  have hS : va_S A s.heap s.heap [] := va_S.rf
  have hl := lv_entry ([.ref aG, .ref aH, .ref aD, .int x3, .int x4, .int x5, .int x6]) (n := 11) (Nat.le_of_ble_eq_true rfl)
  rw [lg_entry_eq]
  generalize (lg_sl ([.ref aG, .ref aH, .ref aD, .int x3, .int x4, .int x5, .int x6]) ++ List.replicate (11 - (lg_sl ([.ref aG, .ref aH, .ref aD, .int x3, .int x4, .int x5, .int x6])).length) Slot.unset).toArray = ls at hl ⊢
  have hl : lv_has ls 11 [(0, .ref aG), (1, .ref aH), (2, .ref aD), (3, .int x3), (4, .int x4), (5, .int x5), (6, .int x6)] := hl
  generalize hQe : MQ below (kQi D cy zr A (wX3_fewest cy aG aH aD qD qH qG qW z_aH0 vD vD_now vH vH_kinds vG z_vW z_vW_who z_vW_cells vH_sorts vH_next z_vW_inFront vH_sizes vH_width vH_doorOne vH_doorTwo)) ([.ref aG, .ref aH, .ref aD, .int x3, .int x4, .int x5, .int x6] : List Value).toArray s 0 0 A = Q
  have L36 : ∀ (fuel : Nat) (y8_36 : Int32) (y9_36 : Int32) (vW_cells_36 : Nat → Int32) (vW_inFront_36 : Nat → Int32) (vW_who_36 : Nat → Int32) (vW_4_36 : Nat) (vW_36 : Nat → Int32), ∀ (H : Heap) (locs : List Loc) (ls : Array Slot), va_P D vwCl (wX3_fewest cy aG aH aD qD qH qG qW vW_4_36 vD vD_now vH vH_kinds vG vW_36 vW_who_36 vW_cells_36 vH_sorts vH_next vW_inFront_36 vH_sizes vH_width vH_doorOne vH_doorTwo) H → va_D A (wX3_fewest cy aG aH aD qD qH qG qW vW_4_36 vD vD_now vH vH_kinds vG vW_36 vW_who_36 vW_cells_36 vH_sorts vH_next vW_inFront_36 vH_sizes vH_width vH_doorOne vH_doorTwo) → va_S A s.heap H locs → lv_has ls 11 [(0, .ref aG), (1, .ref aH), (2, .ref aD), (3, .int x3), (4, .int x4), (5, .int x5), (6, .int x6), (8, .int y8_36), (9, .int y9_36)] → lp (fX3_fewest_B36 aH vD vD_now vH vH_kinds vG vH_sorts vH_next vH_sizes vH_width vH_doorOne vH_doorTwo x3 x4 x5 x6) fuel (y8_36, y9_36, vW_cells_36, vW_inFront_36, vW_who_36, vW_4_36, vW_36) = some (zr, z_vW, z_vW_who, z_vW_cells, z_vW_inFront, z_aH0) → W p l e ({ frames := 4, cells := 0, slots := 0, locals := 96 } : Room) s m ([.ref aG, .ref aH, .ref aD, .int x3, .int x4, .int x5, .int x6] : List Value).toArray below meth c H locs 0 0 Q (F0 m 36 ls []) := by
    intro fuel
    induction fuel with
    | zero => intro y8_36 y9_36 vW_cells_36 vW_inFront_36 vW_who_36 vW_4_36 vW_36 H locs ls hP hD hS hl hok; exact (lp_0 hok).elim
    | succ fuel ih36 =>
      intro y8_36 y9_36 vW_cells_36 vW_inFront_36 vW_who_36 vW_4_36 vW_36 H locs ls hP hD hS hl hok
      obtain ⟨y36, hok, hL36, hR36⟩ := lp_step hok
      have L49 : ∀ (fuel : Nat) (y10_49 : Int32) (vW_cells_49 : Nat → Int32) (vW_inFront_49 : Nat → Int32) (vW_who_49 : Nat → Int32) (vW_4_49 : Nat) (vW_49 : Nat → Int32), ∀ (H : Heap) (locs : List Loc) (ls : Array Slot), va_P D vwCl (wX3_fewest cy aG aH aD qD qH qG qW vW_4_49 vD vD_now vH vH_kinds vG vW_49 vW_who_49 vW_cells_49 vH_sorts vH_next vW_inFront_49 vH_sizes vH_width vH_doorOne vH_doorTwo) H → va_D A (wX3_fewest cy aG aH aD qD qH qG qW vW_4_49 vD vD_now vH vH_kinds vG vW_49 vW_who_49 vW_cells_49 vH_sorts vH_next vW_inFront_49 vH_sizes vH_width vH_doorOne vH_doorTwo) → va_S A s.heap H locs → lv_has ls 11 [(0, .ref aG), (1, .ref aH), (2, .ref aD), (3, .int x3), (4, .int x4), (5, .int x5), (6, .int x6), (8, .int y8_36), (9, .int y9_36), (10, .int y10_49)] → lp (fX3_fewest_B49 aH vD vD_now vH vH_kinds vG vH_sorts vH_next vH_sizes vH_width vH_doorOne vH_doorTwo x3 x4 x5 x6 y8_36 y9_36) fuel (y10_49, vW_cells_49, vW_inFront_49, vW_who_49, vW_4_49, vW_49) = some y36 → W p l e ({ frames := 4, cells := 0, slots := 0, locals := 96 } : Room) s m ([.ref aG, .ref aH, .ref aD, .int x3, .int x4, .int x5, .int x6] : List Value).toArray below meth c H locs 0 0 Q (F0 m 49 ls []) := by
        intro fuel
        induction fuel with
        | zero => intro y10_49 vW_cells_49 vW_inFront_49 vW_who_49 vW_4_49 vW_49 H locs ls hP hD hS hl hok; exact (lp_0 hok).elim
        | succ fuel ih49 =>
          intro y10_49 vW_cells_49 vW_inFront_49 vW_who_49 vW_4_49 vW_49 H locs ls hP hD hS hl hok
          obtain ⟨y49, hok, hL49, hR49⟩ := lp_step hok
          have J104 : ∀ (vW_cells_104 : Nat → Int32) (vW_inFront_104 : Nat → Int32) (vW_who_104 : Nat → Int32) (vW_4_104 : Nat) (vW_104 : Nat → Int32), ∀ (H : Heap) (locs : List Loc) (ls : Array Slot), va_P D vwCl (wX3_fewest cy aG aH aD qD qH qG qW vW_4_104 vD vD_now vH vH_kinds vG vW_104 vW_who_104 vW_cells_104 vH_sorts vH_next vW_inFront_104 vH_sizes vH_width vH_doorOne vH_doorTwo) H → va_D A (wX3_fewest cy aG aH aD qD qH qG qW vW_4_104 vD vD_now vH vH_kinds vG vW_104 vW_who_104 vW_cells_104 vH_sorts vH_next vW_inFront_104 vH_sizes vH_width vH_doorOne vH_doorTwo) → va_S A s.heap H locs → lv_has ls 11 [(0, .ref aG), (1, .ref aH), (2, .ref aD), (3, .int x3), (4, .int x4), (5, .int x5), (6, .int x6), (8, .int y8_36), (9, .int y9_36), (10, .int y10_49)] → fX3_fewest_J104 y10_49 vW_cells_104 vW_inFront_104 vW_who_104 vW_4_104 vW_104 = some y49 → W p l e ({ frames := 4, cells := 0, slots := 0, locals := 96 } : Room) s m ([.ref aG, .ref aH, .ref aD, .int x3, .int x4, .int x5, .int x6] : List Value).toArray below meth c H locs 0 0 Q (F0 m 104 ls []) := by
            intro vW_cells_104 vW_inFront_104 vW_who_104 vW_4_104 vW_104 H locs ls hP hD hS hl hok
            unfold fX3_fewest_J104 at hok
            refine lv_iinc (v := (y10_49 + 1)) (lv' := [(10, .int (y10_49 + 1)), (0, .ref aG), (1, .ref aH), (2, .ref aD), (3, .int x3), (4, .int x4), (5, .int x5), (6, .int x6), (8, .int y8_36), (9, .int y9_36)]) hx hb dX3_fewest_104 hl (k := 9) rfl (by first | rfl | decide) (by decide) rfl (fun ls hl => ?_)
            refine lv_goto (tgt := 49) hx hb dX3_fewest_107 (by decide) ?_
            exact ih49 (y10_49 + 1) vW_cells_104 vW_inFront_104 vW_who_104 vW_4_104 vW_104 H locs ls hP hD hS (lv_sub hl [1, 2, 3, 4, 5, 6, 7, 8, 9, 0] rfl) (hR49 _ (Option.some.inj hok).symm)
          unfold fX3_fewest_B49 at hok
          try dsimp only at hok
          refine lv_iload hx hb dX3_fewest_49 (lv_at hl 9 rfl) ?_
          refine lv_iload hx hb dX3_fewest_51 (lv_at hl 7 rfl) ?_
          refine lv_icmp_gt (tgt := 110) hx hb dX3_fewest_53 (by decide) (fun c53 => ?_) (fun c53 => ?_)
          · have hok := k_pos c53 hok
            obtain ⟨e49, hok, he49⟩ := ex_some hok
            have hok := hok.trans (congrArg some (hL49 _ he49))
            refine lv_iinc (v := (y9_36 + 1)) (lv' := [(9, .int (y9_36 + 1)), (0, .ref aG), (1, .ref aH), (2, .ref aD), (3, .int x3), (4, .int x4), (5, .int x5), (6, .int x6), (8, .int y8_36), (10, .int y10_49)]) hx hb dX3_fewest_110 hl (k := 8) rfl (by first | rfl | decide) (by decide) rfl (fun ls hl => ?_)
            refine lv_goto (tgt := 36) hx hb dX3_fewest_113 (by decide) ?_
            exact ih36 y8_36 (y9_36 + 1) vW_cells_49 vW_inFront_49 vW_who_49 vW_4_49 vW_49 H locs ls hP hD hS (lv_sub hl [1, 2, 3, 4, 5, 6, 7, 8, 0] rfl) (hR36 _ (Option.some.inj hok).symm)
          · have hok := k_neg c53 hok
            refine lv_iload hx hb dX3_fewest_56 (lv_at hl 9 rfl) ?_
            refine lv_iload hx hb dX3_fewest_58 (lv_at hl 8 rfl) ?_
            refine lv_iload hx hb dX3_fewest_60 (lv_at hl 7 rfl) ?_
            obtain ⟨r62, hc62, hok⟩ := k_bind hok
            refine kCi (wc := (wX3_isOfThese cy )) (wc2 := (wX3_isOfThese cy )) (wr := [(aD, oX1 vD qD), (qD 0, rI cy 9 vD_now), (aH, oX4 vH qH), (qH 14, rI cy 7 vH_kinds), (aG, oX3 vG qG), (qG 0, oX6 vW_49 qW vW_4_49), (qW 1, rI cy 36 vW_who_49), (qW 0, rI cy 7 vW_cells_49), (qH 8, rI cy 4 vH_sorts), (qH 10, rI cy 36 vH_next), (qW 2, rI cy 7 vW_inFront_49), (qH 15, rI cy 7 vH_sizes), (qH 11, rI cy 36 vH_width), (qH 12, rI cy 5 vH_doorOne), (qH 13, rI cy 5 vH_doorTwo)]) (ws2 := (wX3_fewest cy aG aH aD qD qH qG qW vW_4_49 vD vD_now vH vH_kinds vG vW_49 vW_who_49 vW_cells_49 vH_sorts vH_next vW_inFront_49 vH_sizes vH_width vH_doorOne vH_doorTwo)) (kRunS (As := [.int y10_49, .int y9_36, .int y8_36]) (rest := []) ⟨hx, hb, hml, hown, ht0⟩ (kX3_isOfThese l D cy _ y10_49 y9_36 y8_36 r62 hc62 _ rfl) (va_cwS 3 ht0 (gS wd176 wd177 wd178 wd179) rfl rfl rfl (by decide +kernel) ⟨Nat.le_of_ble_eq_true rfl, Nat.le_of_ble_eq_true rfl⟩) hK hN hP hD [] rfl (by decide) rfl hl.1 rfl (Nat.le_of_ble_eq_true rfl) dX3_fewest_62 ⟨Nat.zero_le _, Nat.zero_le _⟩) hP hD hS hA [] [0, 1, 2, 3, 4, 5, 6, 7, 8, 9, 10, 11, 12, 13, 14] rfl rfl (by decide) (by decide) [0, 1, 2, 3, 4, 5, 6, 7, 8, 9, 10, 11, 12, 13, 14] (by decide) rfl rfl (fun H locs hP hD hS => ?_)
            refine lv_if_eq (tgt := 104) hx hb dX3_fewest_65 (by decide) (fun c65 => ?_) (fun c65 => ?_)
            · have hok := k_pos c65 hok
              exact J104 vW_cells_49 vW_inFront_49 vW_who_49 vW_4_49 vW_49 H locs ls hP hD hS (lv_sub hl [0, 1, 2, 3, 4, 5, 6, 7, 8, 9] rfl) hok
            · have hok := k_neg c65 hok
              refine lv_aload_n hx hb dX3_fewest_68 rfl (lv_at hl 0 rfl) ?_
              refine va_get (D := D) (ci := 2) (v := .ref (qG 0)) (C := RX3) (T := TX3) (N := 1) hx hb ht0 niX3 hown hK hP 4 rfl rfl 0 (by decide) (ht0 _ wd170) (fun _ h9 => h9) rfl dX3_fewest_69 ?_
              refine lv_aload_n hx hb dX3_fewest_72 rfl (lv_at hl 1 rfl) ?_
              refine lv_aload_n hx hb dX3_fewest_73 rfl (lv_at hl 2 rfl) ?_
              refine lv_iload hx hb dX3_fewest_74 (lv_at hl 9 rfl) ?_
              obtain ⟨⟨vW_76, vW_who_76, vW_cells_76⟩, hc76, hok⟩ := k_bind hok
              try dsimp only at hok
              refine kCv (wc := (wX6_start cy (qG 0) aH aD qW vW_4_49 qD qH vW_49 vD vD_now vW_who_49 vH vH_kinds vW_cells_49 vH_sorts)) (wc2 := (wX6_start cy (qG 0) aH aD qW aH qD qH vW_76 vD vD_now vW_who_76 vH vH_kinds vW_cells_76 vH_sorts)) (wr := [(aG, oX3 vG qG), (qH 10, rI cy 36 vH_next), (qW 2, rI cy 7 vW_inFront_49), (qH 15, rI cy 7 vH_sizes), (qH 11, rI cy 36 vH_width), (qH 12, rI cy 5 vH_doorOne), (qH 13, rI cy 5 vH_doorTwo)]) (ws2 := (wX3_fewest cy aG aH aD qD qH qG qW aH vD vD_now vH vH_kinds vG vW_76 vW_who_76 vW_cells_76 vH_sorts vH_next vW_inFront_49 vH_sizes vH_width vH_doorOne vH_doorTwo)) (kRunV (As := [.ref aH, .ref aD, .int y10_49]) (rest := []) ⟨hx, hb, hml, hown, ht0⟩ (kX6_start l D cy _ (qG 0) aH aD qW vW_4_49 qD qH vW_49 vD vD_now vW_who_49 vH vH_kinds vW_cells_49 vH_sorts y10_49 vW_76 vW_who_76 vW_cells_76 hc76 _ rfl) (cwV 3 ht0 (gV wd180 wd181 wd182 wd114 wd183) rfl rfl rfl (by decide +kernel) ⟨Nat.le_of_ble_eq_true rfl, Nat.le_of_ble_eq_true rfl⟩) hK hN hP hD [5, 0, 1, 6, 2, 3, 7, 8] rfl (by decide) 5 5 rfl rfl rfl hl.1 rfl (Nat.le_of_ble_eq_true rfl) dX3_fewest_76 ⟨Nat.zero_le _, Nat.zero_le _⟩) hP hD hS hA [5, 0, 1, 6, 2, 3, 7, 8] [4, 9, 10, 11, 12, 13, 14] rfl rfl (by decide) (by decide) [8, 9, 11, 12, 0, 7, 10, 13, 14, 1, 2, 3, 4, 5, 6] (by decide) rfl rfl (fun H locs hP hD hS => ?_)
              refine lv_aload_n hx hb dX3_fewest_79 rfl (lv_at hl 0 rfl) ?_
              refine va_get (D := D) (ci := 2) (v := .ref (qG 0)) (C := RX3) (T := TX3) (N := 1) hx hb ht0 niX3 hown hK hP 4 rfl rfl 0 (by decide) (ht0 _ wd170) (fun _ h9 => h9) rfl dX3_fewest_80 ?_
              refine lv_iload hx hb dX3_fewest_83 (lv_at hl 6 rfl) ?_
              obtain ⟨⟨r85, vW_85, vW_cells_85, vW_who_85, vW_inFront_85⟩, hc85, hok⟩ := k_bind hok
              try dsimp only at hok
              refine kCi (wc := (wX6_goOn cy (qG 0) qW aH qH vW_76 vH vW_cells_76 vH_next vW_who_76 vW_inFront_49 vH_sizes vH_width vH_kinds)) (wc2 := (wX6_goOn cy (qG 0) qW aH qH vW_85 vH vW_cells_85 vH_next vW_who_85 vW_inFront_85 vH_sizes vH_width vH_kinds)) (wr := [(aD, oX1 vD qD), (qD 0, rI cy 9 vD_now), (aG, oX3 vG qG), (qH 8, rI cy 4 vH_sorts), (qH 12, rI cy 5 vH_doorOne), (qH 13, rI cy 5 vH_doorTwo)]) (ws2 := (wX3_fewest cy aG aH aD qD qH qG qW aH vD vD_now vH vH_kinds vG vW_85 vW_who_85 vW_cells_85 vH_sorts vH_next vW_inFront_85 vH_sizes vH_width vH_doorOne vH_doorTwo)) (kRunV (As := [.int x6]) (rest := []) ⟨hx, hb, hml, hown, ht0⟩ (kX6_goOn l D cy _ (qG 0) qW aH qH vW_76 vH vW_cells_76 vH_next vW_who_76 vW_inFront_49 vH_sizes vH_width vH_kinds x6 r85 vW_85 vW_cells_85 vW_who_85 vW_inFront_85 hc85 _ rfl) (cwV 1 ht0 (gV wd184 wd185 wd186 wd114 wd187) rfl rfl rfl (by decide +kernel) ⟨Nat.le_of_ble_eq_true rfl, Nat.le_of_ble_eq_true rfl⟩) hK hN hP hD [5, 2, 7, 9, 6, 10, 11, 12, 3] rfl (by decide) 5 5 rfl rfl rfl hl.1 rfl (Nat.le_of_ble_eq_true rfl) dX3_fewest_85 ⟨Nat.zero_le _, Nat.zero_le _⟩) hP hD hS hA [5, 2, 7, 9, 6, 10, 11, 12, 3] [0, 1, 4, 8, 13, 14] rfl rfl (by decide) (by decide) [0, 1, 7, 14, 2, 6, 10, 8, 3, 9, 11, 12, 13, 4, 5] (by decide) rfl rfl (fun H locs hP hD hS => ?_)
              refine lv_pop hx hb dX3_fewest_88 rfl ?_
              refine lv_aload_n hx hb dX3_fewest_89 rfl (lv_at hl 0 rfl) ?_
              refine lv_iload_n hx hb dX3_fewest_90 rfl (lv_at hl 3 rfl) ?_
              refine lv_iload hx hb dX3_fewest_91 (lv_at hl 4 rfl) ?_
              refine lv_iload hx hb dX3_fewest_93 (lv_at hl 5 rfl) ?_
              obtain ⟨r95, hc95, hok⟩ := k_bind hok
              refine kCi (wc := (wX3_isReached cy aG qG qW aH qH vG vW_85 vW_cells_85 vH vH_doorOne vH_doorTwo)) (wc2 := (wX3_isReached cy aG qG qW aH qH vG vW_85 vW_cells_85 vH vH_doorOne vH_doorTwo)) (wr := [(aD, oX1 vD qD), (qD 0, rI cy 9 vD_now), (qH 14, rI cy 7 vH_kinds), (qW 1, rI cy 36 vW_who_85), (qH 8, rI cy 4 vH_sorts), (qH 10, rI cy 36 vH_next), (qW 2, rI cy 7 vW_inFront_85), (qH 15, rI cy 7 vH_sizes), (qH 11, rI cy 36 vH_width)]) (ws2 := (wX3_fewest cy aG aH aD qD qH qG qW aH vD vD_now vH vH_kinds vG vW_85 vW_who_85 vW_cells_85 vH_sorts vH_next vW_inFront_85 vH_sizes vH_width vH_doorOne vH_doorTwo)) (kRunV (As := [.int x3, .int x4, .int x5]) (rest := []) ⟨hx, hb, hml, hown, ht0⟩ (kX3_isReached l D cy _ aG qG qW aH qH vG vW_85 vW_cells_85 vH vH_doorOne vH_doorTwo x3 x4 x5 r95 hc95 _ rfl) (cwV 3 ht0 (gV wd188 wd189 wd190 wd178 wd191) rfl rfl rfl (by decide +kernel) ⟨Nat.le_of_ble_eq_true rfl, Nat.le_of_ble_eq_true rfl⟩) hK hN hP hD [4, 5, 7, 2, 13, 14] rfl (by decide) 4 2 rfl rfl rfl hl.1 rfl (Nat.le_of_ble_eq_true rfl) dX3_fewest_95 ⟨Nat.zero_le _, Nat.zero_le _⟩) hP hD hS hA [4, 5, 7, 2, 13, 14] [0, 1, 3, 6, 8, 9, 10, 11, 12] rfl rfl (by decide) (by decide) [0, 1, 12, 2, 9, 10, 3, 11, 4, 5, 6, 7, 8, 13, 14] (by decide) rfl rfl (fun H locs hP hD hS => ?_)
              refine lv_if_eq (tgt := 104) hx hb dX3_fewest_98 (by decide) (fun c98 => ?_) (fun c98 => ?_)
              · have hok := k_pos c98 hok
                exact J104 vW_cells_85 vW_inFront_85 vW_who_85 aH vW_85 H locs ls hP hD hS (lv_sub hl [0, 1, 2, 3, 4, 5, 6, 7, 8, 9] rfl) hok
              · have hok := k_neg c98 hok
                obtain ⟨e49, hok, he49⟩ := ex_some hok
                have hok := hok.trans (congrArg some (hL49 _ he49))
                obtain ⟨e36, hok, he36⟩ := ex_some hok
                have hok := hok.trans (congrArg some (hL36 _ he36))
                refine lv_iload hx hb dX3_fewest_101 (lv_at hl 9 rfl) ?_
                cases hok
                subst hQe; exact W.iret hx hb hr (fun t ht hW => ⟨⟨_, (), rfl, rfl, by rw [ht]; exact hP, va_K.moved hW.alike hK, hD⟩, hS.F ht⟩) hS.2.2 dX3_fewest_103
      unfold fX3_fewest_B36 at hok
      try dsimp only at hok
      refine lv_iload hx hb dX3_fewest_36 (lv_at hl 8 rfl) ?_
      refine lv_iload hx hb dX3_fewest_38 (lv_at hl 7 rfl) ?_
      obtain ⟨r40, hc40, hok⟩ := k_bind hok
      refine kCi (wc := (wJ6_bitCount_0f7a4 cy )) (wc2 := (wJ6_bitCount_0f7a4 cy )) (wr := [(aD, oX1 vD qD), (qD 0, rI cy 9 vD_now), (aH, oX4 vH qH), (qH 14, rI cy 7 vH_kinds), (aG, oX3 vG qG), (qG 0, oX6 vW_36 qW vW_4_36), (qW 1, rI cy 36 vW_who_36), (qW 0, rI cy 7 vW_cells_36), (qH 8, rI cy 4 vH_sorts), (qH 10, rI cy 36 vH_next), (qW 2, rI cy 7 vW_inFront_36), (qH 15, rI cy 7 vH_sizes), (qH 11, rI cy 36 vH_width), (qH 12, rI cy 5 vH_doorOne), (qH 13, rI cy 5 vH_doorTwo)]) (ws2 := (wX3_fewest cy aG aH aD qD qH qG qW vW_4_36 vD vD_now vH vH_kinds vG vW_36 vW_who_36 vW_cells_36 vH_sorts vH_next vW_inFront_36 vH_sizes vH_width vH_doorOne vH_doorTwo)) (kRunS (As := [.int y8_36]) (rest := [.int y9_36]) ⟨hx, hb, hml, hown, ht0⟩ (kJ6_bitCount_0f7a4 l D cy _ y8_36 r40 hc40 _ rfl) (va_cwS 1 ht0 (gS wd88 wd89 wd90 wd91) rfl rfl rfl (by decide +kernel) ⟨Nat.le_of_ble_eq_true rfl, Nat.le_of_ble_eq_true rfl⟩) hK hN hP hD [] rfl (by decide) rfl hl.1 rfl (Nat.le_of_ble_eq_true rfl) dX3_fewest_40 ⟨Nat.zero_le _, Nat.zero_le _⟩) hP hD hS hA [] [0, 1, 2, 3, 4, 5, 6, 7, 8, 9, 10, 11, 12, 13, 14] rfl rfl (by decide) (by decide) [0, 1, 2, 3, 4, 5, 6, 7, 8, 9, 10, 11, 12, 13, 14] (by decide) rfl rfl (fun H locs hP hD hS => ?_)
      refine lv_icmp_gt (tgt := 116) hx hb dX3_fewest_43 (by decide) (fun c43 => ?_) (fun c43 => ?_)
      · have hok := k_pos c43 hok
        obtain ⟨e36, hok, he36⟩ := ex_some hok
        have hok := hok.trans (congrArg some (hL36 _ he36))
        refine lv_bipush (v := -2) hx hb dX3_fewest_116 (by decide) ?_
        cases hok
        subst hQe; exact W.iret hx hb hr (fun t ht hW => ⟨⟨_, (), rfl, rfl, by rw [ht]; exact hP, va_K.moved hW.alike hK, hD⟩, hS.F ht⟩) hS.2.2 dX3_fewest_118
      · have hok := k_neg c43 hok
        refine lv_iconst (v := 0) hx hb dX3_fewest_46 (by decide) ?_
        refine lv_istore (lv' := [(10, .int 0), (0, .ref aG), (1, .ref aH), (2, .ref aD), (3, .int x3), (4, .int x4), (5, .int x5), (6, .int x6), (8, .int y8_36), (9, .int y9_36)]) hx hb dX3_fewest_47 hl (by decide) rfl (fun ls hl => ?_)
        exact L49 5000 (0 : Int32) vW_cells_36 vW_inFront_36 vW_who_36 vW_4_36 vW_36 H locs ls hP hD hS (lv_sub hl [1, 2, 3, 4, 5, 6, 7, 8, 9, 0] rfl) hok
  unfold fX3_fewest at hok
  obtain ⟨H, hH⟩ : ∃ H, H = s.heap := ⟨_, rfl⟩
  obtain ⟨locs, hlc⟩ : ∃ x : List Loc, x = [] := ⟨_, rfl⟩
  have hP : va_P D vwCl (wX3_fewest cy aG aH aD qD qH qG qW aH0 vD vD_now vH vH_kinds vG vW vW_who vW_cells vH_sorts vH_next vW_inFront vH_sizes vH_width vH_doorOne vH_doorTwo) H := by rw [hH]; exact hP
  have hS : va_S A s.heap H locs := by rw [hH, hlc]; exact hS
  rw [show W p l e _ s m _ below meth c s.heap [] = W p l e _ s m _ below meth c H locs from by rw [hH, hlc]]
  refine lv_iconst (v := 1) hx hb dX3_fewest_0 (by decide) ?_
  refine lv_aload_n hx hb dX3_fewest_1 rfl (lv_at hl 2 rfl) ?_
  refine lv_iload_n hx hb dX3_fewest_2 rfl (lv_at hl 3 rfl) ?_
  obtain ⟨r3, hc3, hok⟩ := k_bind hok
  refine kCi (wc := (wX1_cellOf cy aD qD vD vD_now)) (wc2 := (wX1_cellOf cy aD qD vD vD_now)) (wr := [(aH, oX4 vH qH), (qH 14, rI cy 7 vH_kinds), (aG, oX3 vG qG), (qG 0, oX6 vW qW aH0), (qW 1, rI cy 36 vW_who), (qW 0, rI cy 7 vW_cells), (qH 8, rI cy 4 vH_sorts), (qH 10, rI cy 36 vH_next), (qW 2, rI cy 7 vW_inFront), (qH 15, rI cy 7 vH_sizes), (qH 11, rI cy 36 vH_width), (qH 12, rI cy 5 vH_doorOne), (qH 13, rI cy 5 vH_doorTwo)]) (ws2 := (wX3_fewest cy aG aH aD qD qH qG qW aH0 vD vD_now vH vH_kinds vG vW vW_who vW_cells vH_sorts vH_next vW_inFront vH_sizes vH_width vH_doorOne vH_doorTwo)) (kRunV (As := [.int x3]) (rest := [.int 1]) ⟨hx, hb, hml, hown, ht0⟩ (kX1_cellOf l D cy _ aD qD vD vD_now x3 r3 hc3 _ rfl) (cwV 1 ht0 (gV wd81 wd82 wd83 wd74 wd84) rfl rfl rfl (by decide +kernel) ⟨Nat.le_of_ble_eq_true rfl, Nat.le_of_ble_eq_true rfl⟩) hK hN hP hD [0, 1] rfl (by decide) 0 1 rfl rfl rfl hl.1 rfl (Nat.le_of_ble_eq_true rfl) dX3_fewest_3 ⟨Nat.zero_le _, Nat.zero_le _⟩) hP hD hS hA [0, 1] [2, 3, 4, 5, 6, 7, 8, 9, 10, 11, 12, 13, 14] rfl rfl (by decide) (by decide) [13, 14, 0, 1, 2, 3, 4, 5, 6, 7, 8, 9, 10, 11, 12] (by decide) rfl rfl (fun H locs hP hD hS => ?_)
  obtain ⟨r6, hc6, hok⟩ := k_bind hok
  refine kCi (wc := (wX8_ringOfCell cy )) (wc2 := (wX8_ringOfCell cy )) (wr := [(aD, oX1 vD qD), (qD 0, rI cy 9 vD_now), (aH, oX4 vH qH), (qH 14, rI cy 7 vH_kinds), (aG, oX3 vG qG), (qG 0, oX6 vW qW aH0), (qW 1, rI cy 36 vW_who), (qW 0, rI cy 7 vW_cells), (qH 8, rI cy 4 vH_sorts), (qH 10, rI cy 36 vH_next), (qW 2, rI cy 7 vW_inFront), (qH 15, rI cy 7 vH_sizes), (qH 11, rI cy 36 vH_width), (qH 12, rI cy 5 vH_doorOne), (qH 13, rI cy 5 vH_doorTwo)]) (ws2 := (wX3_fewest cy aG aH aD qD qH qG qW aH0 vD vD_now vH vH_kinds vG vW vW_who vW_cells vH_sorts vH_next vW_inFront vH_sizes vH_width vH_doorOne vH_doorTwo)) (kRunSN (As := [.int r3]) (rest := [.int 1]) ⟨hx, hb, hml, hown, ht0⟩ (kX8_ringOfCell l D cy _ r3 r6 hc6 _ rfl) ⟨va_cnB 1 ht0 (gN wd56) rfl rfl rfl (hN _ (List.mem_of_getElem? (i := 2) rfl)) (ht0 _ wd57) (by decide +kernel) ⟨Nat.le_of_ble_eq_true rfl, Nat.le_of_ble_eq_true rfl⟩, ht0 _ wd58, trivial⟩ hK hN hP hD [] rfl (by decide) rfl hl.1 rfl (Nat.le_of_ble_eq_true rfl) dX3_fewest_6 ⟨Nat.zero_le _, Nat.zero_le _⟩) hP hD hS hA [] [0, 1, 2, 3, 4, 5, 6, 7, 8, 9, 10, 11, 12, 13, 14] rfl rfl (by decide) (by decide) [0, 1, 2, 3, 4, 5, 6, 7, 8, 9, 10, 11, 12, 13, 14] (by decide) rfl rfl (fun H locs hP hD hS => ?_)
  refine lv_ishl hx hb dX3_fewest_9 ?_
  refine lv_iconst (v := 1) hx hb dX3_fewest_10 (by decide) ?_
  refine lv_aload_n hx hb dX3_fewest_11 rfl (lv_at hl 2 rfl) ?_
  refine lv_iload hx hb dX3_fewest_12 (lv_at hl 4 rfl) ?_
  obtain ⟨r14, hc14, hok⟩ := k_bind hok
  refine kCi (wc := (wX1_cellOf cy aD qD vD vD_now)) (wc2 := (wX1_cellOf cy aD qD vD vD_now)) (wr := [(aH, oX4 vH qH), (qH 14, rI cy 7 vH_kinds), (aG, oX3 vG qG), (qG 0, oX6 vW qW aH0), (qW 1, rI cy 36 vW_who), (qW 0, rI cy 7 vW_cells), (qH 8, rI cy 4 vH_sorts), (qH 10, rI cy 36 vH_next), (qW 2, rI cy 7 vW_inFront), (qH 15, rI cy 7 vH_sizes), (qH 11, rI cy 36 vH_width), (qH 12, rI cy 5 vH_doorOne), (qH 13, rI cy 5 vH_doorTwo)]) (ws2 := (wX3_fewest cy aG aH aD qD qH qG qW aH0 vD vD_now vH vH_kinds vG vW vW_who vW_cells vH_sorts vH_next vW_inFront vH_sizes vH_width vH_doorOne vH_doorTwo)) (kRunV (As := [.int x4]) (rest := [.int 1, .int (isl (1 : Int32) r6)]) ⟨hx, hb, hml, hown, ht0⟩ (kX1_cellOf l D cy _ aD qD vD vD_now x4 r14 hc14 _ rfl) (cwV 1 ht0 (gV wd81 wd82 wd83 wd74 wd84) rfl rfl rfl (by decide +kernel) ⟨Nat.le_of_ble_eq_true rfl, Nat.le_of_ble_eq_true rfl⟩) hK hN hP hD [0, 1] rfl (by decide) 0 1 rfl rfl rfl hl.1 rfl (Nat.le_of_ble_eq_true rfl) dX3_fewest_14 ⟨Nat.zero_le _, Nat.zero_le _⟩) hP hD hS hA [0, 1] [2, 3, 4, 5, 6, 7, 8, 9, 10, 11, 12, 13, 14] rfl rfl (by decide) (by decide) [13, 14, 0, 1, 2, 3, 4, 5, 6, 7, 8, 9, 10, 11, 12] (by decide) rfl rfl (fun H locs hP hD hS => ?_)
  obtain ⟨r17, hc17, hok⟩ := k_bind hok
  refine kCi (wc := (wX8_ringOfCell cy )) (wc2 := (wX8_ringOfCell cy )) (wr := [(aD, oX1 vD qD), (qD 0, rI cy 9 vD_now), (aH, oX4 vH qH), (qH 14, rI cy 7 vH_kinds), (aG, oX3 vG qG), (qG 0, oX6 vW qW aH0), (qW 1, rI cy 36 vW_who), (qW 0, rI cy 7 vW_cells), (qH 8, rI cy 4 vH_sorts), (qH 10, rI cy 36 vH_next), (qW 2, rI cy 7 vW_inFront), (qH 15, rI cy 7 vH_sizes), (qH 11, rI cy 36 vH_width), (qH 12, rI cy 5 vH_doorOne), (qH 13, rI cy 5 vH_doorTwo)]) (ws2 := (wX3_fewest cy aG aH aD qD qH qG qW aH0 vD vD_now vH vH_kinds vG vW vW_who vW_cells vH_sorts vH_next vW_inFront vH_sizes vH_width vH_doorOne vH_doorTwo)) (kRunSN (As := [.int r14]) (rest := [.int 1, .int (isl (1 : Int32) r6)]) ⟨hx, hb, hml, hown, ht0⟩ (kX8_ringOfCell l D cy _ r14 r17 hc17 _ rfl) ⟨va_cnB 1 ht0 (gN wd56) rfl rfl rfl (hN _ (List.mem_of_getElem? (i := 2) rfl)) (ht0 _ wd57) (by decide +kernel) ⟨Nat.le_of_ble_eq_true rfl, Nat.le_of_ble_eq_true rfl⟩, ht0 _ wd58, trivial⟩ hK hN hP hD [] rfl (by decide) rfl hl.1 rfl (Nat.le_of_ble_eq_true rfl) dX3_fewest_17 ⟨Nat.zero_le _, Nat.zero_le _⟩) hP hD hS hA [] [0, 1, 2, 3, 4, 5, 6, 7, 8, 9, 10, 11, 12, 13, 14] rfl rfl (by decide) (by decide) [0, 1, 2, 3, 4, 5, 6, 7, 8, 9, 10, 11, 12, 13, 14] (by decide) rfl rfl (fun H locs hP hD hS => ?_)
  refine lv_ishl hx hb dX3_fewest_20 ?_
  refine lv_ior hx hb dX3_fewest_21 ?_
  refine lv_istore (lv' := [(7, .int ((isl (1 : Int32) r6) ||| (isl (1 : Int32) r17))), (0, .ref aG), (1, .ref aH), (2, .ref aD), (3, .int x3), (4, .int x4), (5, .int x5), (6, .int x6)]) hx hb dX3_fewest_22 hl (by decide) rfl (fun ls hl => ?_)
  refine lv_aload_n hx hb dX3_fewest_24 rfl (lv_at hl 2 rfl) ?_
  refine lv_aload_n hx hb dX3_fewest_25 rfl (lv_at hl 3 rfl) ?_
  refine lv_iload hx hb dX3_fewest_26 (lv_at hl 0 rfl) ?_
  obtain ⟨r28, hc28, hok⟩ := k_bind hok
  refine kCi (wc := (wX3_freeIn cy aH aD qH qD vH vD vD_now vH_kinds)) (wc2 := (wX3_freeIn cy aH aD qH qD vH vD vD_now vH_kinds)) (wr := [(aG, oX3 vG qG), (qG 0, oX6 vW qW aH0), (qW 1, rI cy 36 vW_who), (qW 0, rI cy 7 vW_cells), (qH 8, rI cy 4 vH_sorts), (qH 10, rI cy 36 vH_next), (qW 2, rI cy 7 vW_inFront), (qH 15, rI cy 7 vH_sizes), (qH 11, rI cy 36 vH_width), (qH 12, rI cy 5 vH_doorOne), (qH 13, rI cy 5 vH_doorTwo)]) (ws2 := (wX3_fewest cy aG aH aD qD qH qG qW aH0 vD vD_now vH vH_kinds vG vW vW_who vW_cells vH_sorts vH_next vW_inFront vH_sizes vH_width vH_doorOne vH_doorTwo)) (kRunS (As := [.ref aH, .ref aD, .int ((isl (1 : Int32) r6) ||| (isl (1 : Int32) r17))]) (rest := []) ⟨hx, hb, hml, hown, ht0⟩ (kX3_freeIn l D cy _ aH aD qH qD vH vD vD_now vH_kinds ((isl (1 : Int32) r6) ||| (isl (1 : Int32) r17)) r28 hc28 _ rfl) (va_cwS 3 ht0 (gS wd192 wd193 wd178 wd194) rfl rfl rfl (by decide +kernel) ⟨Nat.le_of_ble_eq_true rfl, Nat.le_of_ble_eq_true rfl⟩) hK hN hP hD [2, 0, 1, 3] rfl (by decide) rfl hl.1 rfl (Nat.le_of_ble_eq_true rfl) dX3_fewest_28 ⟨Nat.zero_le _, Nat.zero_le _⟩) hP hD hS hA [2, 0, 1, 3] [4, 5, 6, 7, 8, 9, 10, 11, 12, 13, 14] rfl rfl (by decide) (by decide) [12, 13, 11, 14, 0, 1, 2, 3, 4, 5, 6, 7, 8, 9, 10] (by decide) rfl rfl (fun H locs hP hD hS => ?_)
  refine lv_istore (lv' := [(8, .int r28), (7, .int ((isl (1 : Int32) r6) ||| (isl (1 : Int32) r17))), (0, .ref aG), (1, .ref aH), (2, .ref aD), (3, .int x3), (4, .int x4), (5, .int x5), (6, .int x6)]) hx hb dX3_fewest_31 hl (by decide) rfl (fun ls hl => ?_)
  refine lv_iconst (v := 0) hx hb dX3_fewest_33 (by decide) ?_
  refine lv_istore (lv' := [(9, .int 0), (8, .int r28), (7, .int ((isl (1 : Int32) r6) ||| (isl (1 : Int32) r17))), (0, .ref aG), (1, .ref aH), (2, .ref aD), (3, .int x3), (4, .int x4), (5, .int x5), (6, .int x6)]) hx hb dX3_fewest_34 hl (by decide) rfl (fun ls hl => ?_)
  exact L36 5000 r28 (0 : Int32) vW_cells vW_inFront vW_who aH0 vW H locs ls hP hD hS (lv_sub hl [3, 4, 5, 6, 7, 8, 9, 1, 0] rfl) hok
def wsX3_fewestForPlace : List Cond := .code yX3_fewestForPlace cX3_fewestForPlace 6 (some .int) :: W0
abbrev wX3_fewestForPlace (cy : Nat → ClassId) (aG : Nat) (aH : Nat) (aD : Nat) (qD : Nat → Nat) (qH : Nat → Nat) (qG : Nat → Nat) (qW : Nat → Nat) (aH0 : Nat) (vD : Nat → Int32) (vD_now : Nat → Int32) (vH : Nat → Int32) (vH_kinds : Nat → Int32) (vG : Nat → Int32) (vW : Nat → Int32) (vW_who : Nat → Int32) (vW_cells : Nat → Int32) (vH_sorts : Nat → Int32) (vH_next : Nat → Int32) (vW_inFront : Nat → Int32) (vH_sizes : Nat → Int32) (vH_width : Nat → Int32) (vH_doorOne : Nat → Int32) (vH_doorTwo : Nat → Int32) : va_W := [(aD, oX1 vD qD), (qD 0, rI cy 9 vD_now), (aH, oX4 vH qH), (qH 14, rI cy 7 vH_kinds), (aG, oX3 vG qG), (qG 0, oX6 vW qW aH0), (qW 1, rI cy 36 vW_who), (qW 0, rI cy 7 vW_cells), (qH 8, rI cy 4 vH_sorts), (qH 10, rI cy 36 vH_next), (qW 2, rI cy 7 vW_inFront), (qH 15, rI cy 7 vH_sizes), (qH 11, rI cy 36 vH_width), (qH 12, rI cy 5 vH_doorOne), (qH 13, rI cy 5 vH_doorTwo)]
set_option maxHeartbeats 4000000 in
set_option maxRecDepth 100000 in
theorem kX3_fewestForPlace (l : Launch) (D : va_G) (cy : Nat → ClassId) (sz : Nat) (aG : Nat) (aH : Nat) (aD : Nat) (qD : Nat → Nat) (qH : Nat → Nat) (qG : Nat → Nat) (qW : Nat → Nat) (aH0 : Nat) (vD : Nat → Int32) (vD_now : Nat → Int32) (vH : Nat → Int32) (vH_kinds : Nat → Int32) (vG : Nat → Int32) (vW : Nat → Int32) (vW_who : Nat → Int32) (vW_cells : Nat → Int32) (vH_sorts : Nat → Int32) (vH_next : Nat → Int32) (vW_inFront : Nat → Int32) (vH_sizes : Nat → Int32) (vH_width : Nat → Int32) (vH_doorOne : Nat → Int32) (vH_doorTwo : Nat → Int32) (x3 : Int32) (x4 : Int32) (x5 : Int32) (zr : Int32) (z_vW : Nat → Int32) (z_vW_who : Nat → Int32) (z_vW_cells : Nat → Int32) (z_vW_inFront : Nat → Int32) (z_aH0 : Nat) (hok : fX3_fewestForPlace aH aH0 vD vD_now vH vH_kinds vG vW vW_who vW_cells vH_sorts vH_next vW_inFront vH_sizes vH_width vH_doorOne vH_doorTwo x3 x4 x5 = some (zr, z_vW, z_vW_who, z_vW_cells, z_vW_inFront, z_aH0)) (A : Nat → Prop) (hAe : va_A (wX3_fewestForPlace cy aG aH aD qD qH qG qW aH0 vD vD_now vH vH_kinds vG vW vW_who vW_cells vH_sorts vH_next vW_inFront vH_sizes vH_width vH_doorOne vH_doorTwo) sz = A) : Met l yX3_fewestForPlace wsX3_fewestForPlace ({ frames := 5, cells := 0, slots := 0, locals := 126 } : Room) (kPre D cy [.ref aG, .ref aH, .ref aD, .int x3, .int x4, .int x5] (wX3_fewestForPlace cy aG aH aD qD qH qG qW aH0 vD vD_now vH vH_kinds vG vW vW_who vW_cells vH_sorts vH_next vW_inFront vH_sizes vH_width vH_doorOne vH_doorTwo) sz) (kQi D cy zr A (wX3_fewestForPlace cy aG aH aD qD qH qG qW z_aH0 vD vD_now vH vH_kinds vG z_vW z_vW_who z_vW_cells vH_sorts vH_next z_vW_inFront vH_sizes vH_width vH_doorOne vH_doorTwo)) 0 0 A := by
  refine Met.ofW (cc := cX3_fewestForPlace) (maxL := 6) (ret := (some .int)) (by decide) rfl ?_
  intro p e s m args below meth c s₁ B hml hv
  obtain ⟨rfl, hsz, hP, hK, hD0, hN⟩ := hv
  have hx := B.exec
  have hb := B.bytes
  have hr := B.returns
  have ht0 : ∀ w ∈ W0, w.before _ s = true := fun w h => atoms_spec (ws := wsX3_fewestForPlace) B.pre w (List.mem_cons_of_mem _ h)
  have hown : s.vm.findClass RX3 = some m.cls := findClass_of_methodNamed B.named
  have hlocks := B.notSynchronized
  subst hsz
  have hD : va_D A (wX3_fewestForPlace cy aG aH aD qD qH qG qW aH0 vD vD_now vH vH_kinds vG vW vW_who vW_cells vH_sorts vH_next vW_inFront vH_sizes vH_width vH_doorOne vH_doorTwo) := by rw [← hAe]; exact hD0.self
  have hA : ∀ q : Nat, s.heap.size ≤ q → A q := fun q h => by rw [← hAe]; exact Or.inr h
  have hS : va_S A s.heap s.heap [] := va_S.rf
  have hl := lv_entry ([.ref aG, .ref aH, .ref aD, .int x3, .int x4, .int x5]) (n := 6) (Nat.le_of_ble_eq_true rfl)
  rw [lg_entry_eq]
  generalize (lg_sl ([.ref aG, .ref aH, .ref aD, .int x3, .int x4, .int x5]) ++ List.replicate (6 - (lg_sl ([.ref aG, .ref aH, .ref aD, .int x3, .int x4, .int x5])).length) Slot.unset).toArray = ls at hl ⊢
  have hl : lv_has ls 6 [(0, .ref aG), (1, .ref aH), (2, .ref aD), (3, .int x3), (4, .int x4), (5, .int x5)] := hl
  unfold fX3_fewestForPlace at hok
  obtain ⟨H, hH⟩ : ∃ H, H = s.heap := ⟨_, rfl⟩
  obtain ⟨locs, hlc⟩ : ∃ x : List Loc, x = [] := ⟨_, rfl⟩
  have hP : va_P D vwCl (wX3_fewestForPlace cy aG aH aD qD qH qG qW aH0 vD vD_now vH vH_kinds vG vW vW_who vW_cells vH_sorts vH_next vW_inFront vH_sizes vH_width vH_doorOne vH_doorTwo) H := by rw [hH]; exact hP
  have hS : va_S A s.heap H locs := by rw [hH, hlc]; exact hS
  rw [show W p l e _ s m _ below meth c s.heap [] = W p l e _ s m _ below meth c H locs from by rw [hH, hlc]]
  refine lv_aload_n hx hb dX3_fewestForPlace_0 rfl (lv_at hl 0 rfl) ?_
  refine lv_aload_n hx hb dX3_fewestForPlace_1 rfl (lv_at hl 1 rfl) ?_
  refine lv_aload_n hx hb dX3_fewestForPlace_2 rfl (lv_at hl 2 rfl) ?_
  refine lv_iload_n hx hb dX3_fewestForPlace_3 rfl (lv_at hl 3 rfl) ?_
  refine lv_iload_n hx hb dX3_fewestForPlace_4 rfl (lv_at hl 3 rfl) ?_
  refine lv_iload hx hb dX3_fewestForPlace_5 (lv_at hl 4 rfl) ?_
  refine lv_iload hx hb dX3_fewestForPlace_7 (lv_at hl 5 rfl) ?_
  obtain ⟨⟨r9, vW_9, vW_who_9, vW_cells_9, vW_inFront_9, aH0_9⟩, hc9, hok⟩ := k_bind hok
  try dsimp only at hok
  refine kCi (wc := (wX3_fewest cy aG aH aD qD qH qG qW aH0 vD vD_now vH vH_kinds vG vW vW_who vW_cells vH_sorts vH_next vW_inFront vH_sizes vH_width vH_doorOne vH_doorTwo)) (wc2 := (wX3_fewest cy aG aH aD qD qH qG qW aH0_9 vD vD_now vH vH_kinds vG vW_9 vW_who_9 vW_cells_9 vH_sorts vH_next vW_inFront_9 vH_sizes vH_width vH_doorOne vH_doorTwo)) (wr := []) (ws2 := (wX3_fewestForPlace cy aG aH aD qD qH qG qW aH0_9 vD vD_now vH vH_kinds vG vW_9 vW_who_9 vW_cells_9 vH_sorts vH_next vW_inFront_9 vH_sizes vH_width vH_doorOne vH_doorTwo)) (kRunV (As := [.ref aH, .ref aD, .int x3, .int x3, .int x4, .int x5]) (rest := []) ⟨hx, hb, hml, hown, ht0⟩ (kX3_fewest l D cy _ aG aH aD qD qH qG qW aH0 vD vD_now vH vH_kinds vG vW vW_who vW_cells vH_sorts vH_next vW_inFront vH_sizes vH_width vH_doorOne vH_doorTwo x3 x3 x4 x5 r9 vW_9 vW_who_9 vW_cells_9 vW_inFront_9 aH0_9 hc9 _ rfl) (cwV 6 ht0 (gV wd195 wd196 wd197 wd178 wd198) rfl rfl rfl (by decide +kernel) ⟨Nat.le_of_ble_eq_true rfl, Nat.le_of_ble_eq_true rfl⟩) hK hN hP hD [0, 1, 2, 3, 4, 5, 6, 7, 8, 9, 10, 11, 12, 13, 14] rfl (by decide) 4 2 rfl rfl rfl hl.1 rfl (Nat.le_of_ble_eq_true rfl) dX3_fewestForPlace_9 ⟨Nat.zero_le _, Nat.zero_le _⟩) hP hD hS hA [0, 1, 2, 3, 4, 5, 6, 7, 8, 9, 10, 11, 12, 13, 14] [] rfl rfl (by decide) (by decide) [0, 1, 2, 3, 4, 5, 6, 7, 8, 9, 10, 11, 12, 13, 14] (by decide) rfl rfl (fun H locs hP hD hS => ?_)
  cases hok
  exact W.iret hx hb hr (fun t ht hW => ⟨⟨_, (), rfl, rfl, by rw [ht]; exact hP, va_K.moved hW.alike hK, hD⟩, hS.F ht⟩) hS.2.2 dX3_fewestForPlace_12
def wsX3_fewestToMeet : List Cond := .code yX3_fewestToMeet cX3_fewestToMeet 6 (some .int) :: W0
abbrev wX3_fewestToMeet (cy : Nat → ClassId) (aG : Nat) (aH : Nat) (aD : Nat) (qD : Nat → Nat) (qH : Nat → Nat) (qG : Nat → Nat) (qW : Nat → Nat) (aH0 : Nat) (vD : Nat → Int32) (vD_now : Nat → Int32) (vH : Nat → Int32) (vH_kinds : Nat → Int32) (vG : Nat → Int32) (vW : Nat → Int32) (vW_who : Nat → Int32) (vW_cells : Nat → Int32) (vH_sorts : Nat → Int32) (vH_next : Nat → Int32) (vW_inFront : Nat → Int32) (vH_sizes : Nat → Int32) (vH_width : Nat → Int32) (vH_doorOne : Nat → Int32) (vH_doorTwo : Nat → Int32) : va_W := [(aD, oX1 vD qD), (qD 0, rI cy 9 vD_now), (aH, oX4 vH qH), (qH 14, rI cy 7 vH_kinds), (aG, oX3 vG qG), (qG 0, oX6 vW qW aH0), (qW 1, rI cy 36 vW_who), (qW 0, rI cy 7 vW_cells), (qH 8, rI cy 4 vH_sorts), (qH 10, rI cy 36 vH_next), (qW 2, rI cy 7 vW_inFront), (qH 15, rI cy 7 vH_sizes), (qH 11, rI cy 36 vH_width), (qH 12, rI cy 5 vH_doorOne), (qH 13, rI cy 5 vH_doorTwo)]
set_option maxHeartbeats 4000000 in
set_option maxRecDepth 100000 in
theorem kX3_fewestToMeet (l : Launch) (D : va_G) (cy : Nat → ClassId) (sz : Nat) (aG : Nat) (aH : Nat) (aD : Nat) (qD : Nat → Nat) (qH : Nat → Nat) (qG : Nat → Nat) (qW : Nat → Nat) (aH0 : Nat) (vD : Nat → Int32) (vD_now : Nat → Int32) (vH : Nat → Int32) (vH_kinds : Nat → Int32) (vG : Nat → Int32) (vW : Nat → Int32) (vW_who : Nat → Int32) (vW_cells : Nat → Int32) (vH_sorts : Nat → Int32) (vH_next : Nat → Int32) (vW_inFront : Nat → Int32) (vH_sizes : Nat → Int32) (vH_width : Nat → Int32) (vH_doorOne : Nat → Int32) (vH_doorTwo : Nat → Int32) (x3 : Int32) (x4 : Int32) (x5 : Int32) (zr : Int32) (z_vW : Nat → Int32) (z_vW_who : Nat → Int32) (z_vW_cells : Nat → Int32) (z_vW_inFront : Nat → Int32) (z_aH0 : Nat) (hok : fX3_fewestToMeet aH aH0 vD vD_now vH vH_kinds vG vW vW_who vW_cells vH_sorts vH_next vW_inFront vH_sizes vH_width vH_doorOne vH_doorTwo x3 x4 x5 = some (zr, z_vW, z_vW_who, z_vW_cells, z_vW_inFront, z_aH0)) (A : Nat → Prop) (hAe : va_A (wX3_fewestToMeet cy aG aH aD qD qH qG qW aH0 vD vD_now vH vH_kinds vG vW vW_who vW_cells vH_sorts vH_next vW_inFront vH_sizes vH_width vH_doorOne vH_doorTwo) sz = A) : Met l yX3_fewestToMeet wsX3_fewestToMeet ({ frames := 5, cells := 0, slots := 0, locals := 126 } : Room) (kPre D cy [.ref aG, .ref aH, .ref aD, .int x3, .int x4, .int x5] (wX3_fewestToMeet cy aG aH aD qD qH qG qW aH0 vD vD_now vH vH_kinds vG vW vW_who vW_cells vH_sorts vH_next vW_inFront vH_sizes vH_width vH_doorOne vH_doorTwo) sz) (kQi D cy zr A (wX3_fewestToMeet cy aG aH aD qD qH qG qW z_aH0 vD vD_now vH vH_kinds vG z_vW z_vW_who z_vW_cells vH_sorts vH_next z_vW_inFront vH_sizes vH_width vH_doorOne vH_doorTwo)) 0 0 A := by
  refine Met.ofW (cc := cX3_fewestToMeet) (maxL := 6) (ret := (some .int)) (by decide) rfl ?_
  intro p e s m args below meth c s₁ B hml hv
  obtain ⟨rfl, hsz, hP, hK, hD0, hN⟩ := hv
  have hx := B.exec
  have hb := B.bytes
  have hr := B.returns
  have ht0 : ∀ w ∈ W0, w.before _ s = true := fun w h => atoms_spec (ws := wsX3_fewestToMeet) B.pre w (List.mem_cons_of_mem _ h)
  have hown : s.vm.findClass RX3 = some m.cls := findClass_of_methodNamed B.named
  have hlocks := B.notSynchronized
  subst hsz
  have hD : va_D A (wX3_fewestToMeet cy aG aH aD qD qH qG qW aH0 vD vD_now vH vH_kinds vG vW vW_who vW_cells vH_sorts vH_next vW_inFront vH_sizes vH_width vH_doorOne vH_doorTwo) := by rw [← hAe]; exact hD0.self
  have hA : ∀ q : Nat, s.heap.size ≤ q → A q := fun q h => by rw [← hAe]; exact Or.inr h
  have hS : va_S A s.heap s.heap [] := va_S.rf
  have hl := lv_entry ([.ref aG, .ref aH, .ref aD, .int x3, .int x4, .int x5]) (n := 6) (Nat.le_of_ble_eq_true rfl)
  rw [lg_entry_eq]
  generalize (lg_sl ([.ref aG, .ref aH, .ref aD, .int x3, .int x4, .int x5]) ++ List.replicate (6 - (lg_sl ([.ref aG, .ref aH, .ref aD, .int x3, .int x4, .int x5])).length) Slot.unset).toArray = ls at hl ⊢
  have hl : lv_has ls 6 [(0, .ref aG), (1, .ref aH), (2, .ref aD), (3, .int x3), (4, .int x4), (5, .int x5)] := hl
  unfold fX3_fewestToMeet at hok
  obtain ⟨H, hH⟩ : ∃ H, H = s.heap := ⟨_, rfl⟩
  obtain ⟨locs, hlc⟩ : ∃ x : List Loc, x = [] := ⟨_, rfl⟩
  have hP : va_P D vwCl (wX3_fewestToMeet cy aG aH aD qD qH qG qW aH0 vD vD_now vH vH_kinds vG vW vW_who vW_cells vH_sorts vH_next vW_inFront vH_sizes vH_width vH_doorOne vH_doorTwo) H := by rw [hH]; exact hP
  have hS : va_S A s.heap H locs := by rw [hH, hlc]; exact hS
  rw [show W p l e _ s m _ below meth c s.heap [] = W p l e _ s m _ below meth c H locs from by rw [hH, hlc]]
  refine lv_aload_n hx hb dX3_fewestToMeet_0 rfl (lv_at hl 0 rfl) ?_
  refine lv_aload_n hx hb dX3_fewestToMeet_1 rfl (lv_at hl 1 rfl) ?_
  refine lv_aload_n hx hb dX3_fewestToMeet_2 rfl (lv_at hl 2 rfl) ?_
  refine lv_iload_n hx hb dX3_fewestToMeet_3 rfl (lv_at hl 3 rfl) ?_
  refine lv_iload hx hb dX3_fewestToMeet_4 (lv_at hl 4 rfl) ?_
  refine lv_iconst (v := -1) hx hb dX3_fewestToMeet_6 (by decide) ?_
  refine lv_iload hx hb dX3_fewestToMeet_7 (lv_at hl 5 rfl) ?_
  obtain ⟨⟨r9, vW_9, vW_who_9, vW_cells_9, vW_inFront_9, aH0_9⟩, hc9, hok⟩ := k_bind hok
  try dsimp only at hok
  refine kCi (wc := (wX3_fewest cy aG aH aD qD qH qG qW aH0 vD vD_now vH vH_kinds vG vW vW_who vW_cells vH_sorts vH_next vW_inFront vH_sizes vH_width vH_doorOne vH_doorTwo)) (wc2 := (wX3_fewest cy aG aH aD qD qH qG qW aH0_9 vD vD_now vH vH_kinds vG vW_9 vW_who_9 vW_cells_9 vH_sorts vH_next vW_inFront_9 vH_sizes vH_width vH_doorOne vH_doorTwo)) (wr := []) (ws2 := (wX3_fewestToMeet cy aG aH aD qD qH qG qW aH0_9 vD vD_now vH vH_kinds vG vW_9 vW_who_9 vW_cells_9 vH_sorts vH_next vW_inFront_9 vH_sizes vH_width vH_doorOne vH_doorTwo)) (kRunV (As := [.ref aH, .ref aD, .int x3, .int x4, .int (-1), .int x5]) (rest := []) ⟨hx, hb, hml, hown, ht0⟩ (kX3_fewest l D cy _ aG aH aD qD qH qG qW aH0 vD vD_now vH vH_kinds vG vW vW_who vW_cells vH_sorts vH_next vW_inFront vH_sizes vH_width vH_doorOne vH_doorTwo x3 x4 (-1 : Int32) x5 r9 vW_9 vW_who_9 vW_cells_9 vW_inFront_9 aH0_9 hc9 _ rfl) (cwV 6 ht0 (gV wd195 wd196 wd197 wd178 wd198) rfl rfl rfl (by decide +kernel) ⟨Nat.le_of_ble_eq_true rfl, Nat.le_of_ble_eq_true rfl⟩) hK hN hP hD [0, 1, 2, 3, 4, 5, 6, 7, 8, 9, 10, 11, 12, 13, 14] rfl (by decide) 4 2 rfl rfl rfl hl.1 rfl (Nat.le_of_ble_eq_true rfl) dX3_fewestToMeet_9 ⟨Nat.zero_le _, Nat.zero_le _⟩) hP hD hS hA [0, 1, 2, 3, 4, 5, 6, 7, 8, 9, 10, 11, 12, 13, 14] [] rfl rfl (by decide) (by decide) [0, 1, 2, 3, 4, 5, 6, 7, 8, 9, 10, 11, 12, 13, 14] (by decide) rfl rfl (fun H locs hP hD hS => ?_)
  cases hok
  exact W.iret hx hb hr (fun t ht hW => ⟨⟨_, (), rfl, rfl, by rw [ht]; exact hP, va_K.moved hW.alike hK, hD⟩, hS.F ht⟩) hS.2.2 dX3_fewestToMeet_12
def wsX7_withinReach : List Cond := .code yX7_withinReach cX7_withinReach 6 (some .int) :: W0
abbrev wX7_withinReach (cy : Nat → ClassId) (aU : Nat) (aD : Nat) (qU : Nat → Nat) (qD : Nat → Nat) (vU : Nat → Int32) (vU_nights : Nat → Int32) (vD : Nat → Int32) (vD_now : Nat → Int32) (vU_things : Nat → Int32) (vU_cells : Nat → Int32) : va_W := [(aU, oX7 vU qU), (qU 3, rI cy 6 vU_nights), (aD, oX1 vD qD), (qD 0, rI cy 9 vD_now), (qU 1, rI cy 6 vU_things), (qU 2, rI cy 6 vU_cells)]
set_option maxHeartbeats 4000000 in
set_option maxRecDepth 100000 in
theorem kX7_withinReach (l : Launch) (D : va_G) (cy : Nat → ClassId) (sz : Nat) (aU : Nat) (aD : Nat) (qU : Nat → Nat) (qD : Nat → Nat) (vU : Nat → Int32) (vU_nights : Nat → Int32) (vD : Nat → Int32) (vD_now : Nat → Int32) (vU_things : Nat → Int32) (vU_cells : Nat → Int32) (x2 : Int32) (zr : Int32) (hok : fX7_withinReach vU vU_nights vD vD_now vU_things vU_cells x2 = some zr) (A : Nat → Prop) (hAe : va_A (wX7_withinReach cy aU aD qU qD vU vU_nights vD vD_now vU_things vU_cells) sz = A) : Met l yX7_withinReach wsX7_withinReach ({ frames := 1, cells := 0, slots := 0, locals := 21 } : Room) (kPre D cy [.ref aU, .ref aD, .int x2] (wX7_withinReach cy aU aD qU qD vU vU_nights vD vD_now vU_things vU_cells) sz) (kQi D cy zr A (wX7_withinReach cy aU aD qU qD vU vU_nights vD vD_now vU_things vU_cells)) 0 0 A := by
  refine Met.ofW (cc := cX7_withinReach) (maxL := 6) (ret := (some .int)) (by decide) rfl ?_
  intro p e s m args below meth c s₁ B hml hv
  obtain ⟨rfl, hsz, hP, hK, hD0, hN⟩ := hv
  have hx := B.exec
  have hb := B.bytes
  have hr := B.returns
  have ht0 : ∀ w ∈ W0, w.before _ s = true := fun w h => atoms_spec (ws := wsX7_withinReach) B.pre w (List.mem_cons_of_mem _ h)
  have hown : s.vm.findClass RX7 = some m.cls := findClass_of_methodNamed B.named
  have hlocks := B.notSynchronized
  subst hsz
  have hD : va_D A (wX7_withinReach cy aU aD qU qD vU vU_nights vD vD_now vU_things vU_cells) := by rw [← hAe]; exact hD0.self
  have hA : ∀ q : Nat, s.heap.size ≤ q → A q := fun q h => by rw [← hAe]; exact Or.inr h
  have hS : va_S A s.heap s.heap [] := va_S.rf
  have hl := lv_entry ([.ref aU, .ref aD, .int x2]) (n := 6) (Nat.le_of_ble_eq_true rfl)
  rw [lg_entry_eq]
  generalize (lg_sl ([.ref aU, .ref aD, .int x2]) ++ List.replicate (6 - (lg_sl ([.ref aU, .ref aD, .int x2])).length) Slot.unset).toArray = ls at hl ⊢
  have hl : lv_has ls 6 [(0, .ref aU), (1, .ref aD), (2, .int x2)] := hl
  generalize hQe : MQ below (kQi D cy zr A (wX7_withinReach cy aU aD qU qD vU vU_nights vD vD_now vU_things vU_cells)) ([.ref aU, .ref aD, .int x2] : List Value).toArray s 0 0 A = Q
  have J103 : ∀ (y3_103 : Int32), ∀ (H : Heap) (locs : List Loc) (ls : Array Slot), va_P D vwCl (wX7_withinReach cy aU aD qU qD vU vU_nights vD vD_now vU_things vU_cells) H → va_D A (wX7_withinReach cy aU aD qU qD vU vU_nights vD vD_now vU_things vU_cells) → va_S A s.heap H locs → lv_has ls 6 [(3, .int y3_103)] → fX7_withinReach_J103 y3_103 = some zr → W p l e ({ frames := 1, cells := 0, slots := 0, locals := 21 } : Room) s m ([.ref aU, .ref aD, .int x2] : List Value).toArray below meth c H locs 0 0 Q (F0 m 103 ls []) := by
    intro y3_103 H locs ls hP hD hS hl hok
    unfold fX7_withinReach_J103 at hok
    refine lv_iload_n hx hb dX7_withinReach_103 rfl (lv_at hl 0 rfl) ?_
    cases hok
    subst hQe; exact W.iret hx hb hr (fun t ht hW => ⟨⟨_, (), rfl, rfl, by rw [ht]; exact hP, va_K.moved hW.alike hK, hD⟩, hS.F ht⟩) hS.2.2 dX7_withinReach_104
  have L5 : ∀ (fuel : Nat) (y3_5 : Int32) (y4_5 : Int32), ∀ (H : Heap) (locs : List Loc) (ls : Array Slot), va_P D vwCl (wX7_withinReach cy aU aD qU qD vU vU_nights vD vD_now vU_things vU_cells) H → va_D A (wX7_withinReach cy aU aD qU qD vU vU_nights vD vD_now vU_things vU_cells) → va_S A s.heap H locs → lv_has ls 6 [(0, .ref aU), (1, .ref aD), (2, .int x2), (3, .int y3_5), (4, .int y4_5)] → lp (fX7_withinReach_B5 vU vU_nights vD vD_now vU_things vU_cells x2) fuel (y3_5, y4_5) = some zr → W p l e ({ frames := 1, cells := 0, slots := 0, locals := 21 } : Room) s m ([.ref aU, .ref aD, .int x2] : List Value).toArray below meth c H locs 0 0 Q (F0 m 5 ls []) := by
    intro fuel
    induction fuel with
    | zero => intro y3_5 y4_5 H locs ls hP hD hS hl hok; exact (lp_0 hok).elim
    | succ fuel ih5 =>
      intro y3_5 y4_5 H locs ls hP hD hS hl hok
      obtain ⟨y5, hok, hL5, hR5⟩ := lp_step hok
      have J97 : ∀ (y3_97 : Int32), ∀ (H : Heap) (locs : List Loc) (ls : Array Slot), va_P D vwCl (wX7_withinReach cy aU aD qU qD vU vU_nights vD vD_now vU_things vU_cells) H → va_D A (wX7_withinReach cy aU aD qU qD vU vU_nights vD vD_now vU_things vU_cells) → va_S A s.heap H locs → lv_has ls 6 [(0, .ref aU), (1, .ref aD), (2, .int x2), (3, .int y3_97), (4, .int y4_5)] → fX7_withinReach_J97 y4_5 y3_97 = some y5 → W p l e ({ frames := 1, cells := 0, slots := 0, locals := 21 } : Room) s m ([.ref aU, .ref aD, .int x2] : List Value).toArray below meth c H locs 0 0 Q (F0 m 97 ls []) := by
        intro y3_97 H locs ls hP hD hS hl hok
        unfold fX7_withinReach_J97 at hok
        refine lv_iinc (v := (y4_5 + 1)) (lv' := [(4, .int (y4_5 + 1)), (0, .ref aU), (1, .ref aD), (2, .int x2), (3, .int y3_97)]) hx hb dX7_withinReach_97 hl (k := 4) rfl (by first | rfl | decide) (by decide) rfl (fun ls hl => ?_)
        refine lv_goto (tgt := 5) hx hb dX7_withinReach_100 (by decide) ?_
        exact ih5 y3_97 (y4_5 + 1) H locs ls hP hD hS (lv_sub hl [1, 2, 3, 4, 0] rfl) (hR5 _ (Option.some.inj hok).symm)
      have J56 : ∀ (t0_56 : Int32), ∀ (H : Heap) (locs : List Loc) (ls : Array Slot), va_P D vwCl (wX7_withinReach cy aU aD qU qD vU vU_nights vD vD_now vU_things vU_cells) H → va_D A (wX7_withinReach cy aU aD qU qD vU vU_nights vD vD_now vU_things vU_cells) → va_S A s.heap H locs → lv_has ls 6 [(0, .ref aU), (1, .ref aD), (2, .int x2), (3, .int y3_5), (4, .int y4_5)] → fX7_withinReach_J56 vD vD_now vU_things vU_cells y3_5 y4_5 t0_56 = some y5 → W p l e ({ frames := 1, cells := 0, slots := 0, locals := 21 } : Room) s m ([.ref aU, .ref aD, .int x2] : List Value).toArray below meth c H locs 0 0 Q (F0 m 56 ls [.int t0_56]) := by
        intro t0_56 H locs ls hP hD hS hl hok
        unfold fX7_withinReach_J56 at hok
        refine lv_istore (lv' := [(5, .int t0_56), (0, .ref aU), (1, .ref aD), (2, .int x2), (3, .int y3_5), (4, .int y4_5)]) hx hb dX7_withinReach_56 hl (by decide) rfl (fun ls hl => ?_)
        refine lv_iload hx hb dX7_withinReach_58 (lv_at hl 0 rfl) ?_
        refine lv_if_eq (tgt := 97) hx hb dX7_withinReach_60 (by decide) (fun c60 => ?_) (fun c60 => ?_)
        · have hok := k_pos c60 hok
          exact J97 y3_5 H locs ls hP hD hS (lv_sub hl [1, 2, 3, 4, 5] rfl) hok
        · have hok := k_neg c60 hok
          refine lv_aload_n hx hb dX7_withinReach_63 rfl (lv_at hl 2 rfl) ?_
          refine lv_aload_n hx hb dX7_withinReach_64 rfl (lv_at hl 1 rfl) ?_
          refine va_get (D := D) (ci := 6) (v := .ref (qU 1)) (C := RX7) (T := TX7) (N := 5) hx hb ht0 niX7 hown hK hP 0 rfl rfl 1 (by decide) (ht0 _ wd199) (fun _ h9 => h9) rfl dX7_withinReach_65 ?_
          refine lv_iload hx hb dX7_withinReach_68 (lv_at hl 5 rfl) ?_
          obtain ⟨g70, hok⟩ := gd_some hok
          refine va_iald hx hb hK hP 4 0 rfl rfl (okI_in g70) dX7_withinReach_70 ?_
          obtain ⟨r71, hc71, hok⟩ := k_bind hok
          refine kCi (wc := (wX1_cellOf cy aD qD vD vD_now)) (wc2 := (wX1_cellOf cy aD qD vD vD_now)) (wr := [(aU, oX7 vU qU), (qU 3, rI cy 6 vU_nights), (qU 1, rI cy 6 vU_things), (qU 2, rI cy 6 vU_cells)]) (ws2 := (wX7_withinReach cy aU aD qU qD vU vU_nights vD vD_now vU_things vU_cells)) (kRunV (As := [.int (vU_things y4_5.toNatClampNeg)]) (rest := []) ⟨hx, hb, hml, hown, ht0⟩ (kX1_cellOf l D cy _ aD qD vD vD_now (vU_things y4_5.toNatClampNeg) r71 hc71 _ rfl) (cwV 1 ht0 (gV wd200 wd82 wd83 wd74 wd84) rfl rfl rfl (by decide +kernel) ⟨Nat.le_of_ble_eq_true rfl, Nat.le_of_ble_eq_true rfl⟩) hK hN hP hD [2, 3] rfl (by decide) 2 1 rfl rfl rfl hl.1 rfl (Nat.le_of_ble_eq_true rfl) dX7_withinReach_71 ⟨Nat.zero_le _, Nat.zero_le _⟩) hP hD hS hA [2, 3] [0, 1, 4, 5] rfl rfl (by decide) (by decide) [0, 1, 4, 5, 2, 3] (by decide) rfl rfl (fun H locs hP hD hS => ?_)
          obtain ⟨r74, hc74, hok⟩ := k_bind hok
          refine kCi (wc := (wX8_ringOfCell cy )) (wc2 := (wX8_ringOfCell cy )) (wr := [(aU, oX7 vU qU), (qU 3, rI cy 6 vU_nights), (aD, oX1 vD qD), (qD 0, rI cy 9 vD_now), (qU 1, rI cy 6 vU_things), (qU 2, rI cy 6 vU_cells)]) (ws2 := (wX7_withinReach cy aU aD qU qD vU vU_nights vD vD_now vU_things vU_cells)) (kRunSN (As := [.int r71]) (rest := []) ⟨hx, hb, hml, hown, ht0⟩ (kX8_ringOfCell l D cy _ r71 r74 hc74 _ rfl) ⟨va_cnB 1 ht0 (gN wd56) rfl rfl rfl (hN _ (List.mem_of_getElem? (i := 7) rfl)) (ht0 _ wd57) (by decide +kernel) ⟨Nat.le_of_ble_eq_true rfl, Nat.le_of_ble_eq_true rfl⟩, ht0 _ wd58, trivial⟩ hK hN hP hD [] rfl (by decide) rfl hl.1 rfl (Nat.le_of_ble_eq_true rfl) dX7_withinReach_74 ⟨Nat.zero_le _, Nat.zero_le _⟩) hP hD hS hA [] [0, 1, 2, 3, 4, 5] rfl rfl (by decide) (by decide) [0, 1, 2, 3, 4, 5] (by decide) rfl rfl (fun H locs hP hD hS => ?_)
          refine lv_aload_n hx hb dX7_withinReach_77 rfl (lv_at hl 1 rfl) ?_
          refine va_get (D := D) (ci := 6) (v := .ref (qU 2)) (C := RX7) (T := TX7) (N := 5) hx hb ht0 niX7 hown hK hP 0 rfl rfl 2 (by decide) (ht0 _ wd201) (fun _ h9 => h9) rfl dX7_withinReach_78 ?_
          refine lv_iload hx hb dX7_withinReach_81 (lv_at hl 5 rfl) ?_
          obtain ⟨g83, hok⟩ := gd_some hok
          refine va_iald hx hb hK hP 5 0 rfl rfl (okI_in g83) dX7_withinReach_83 ?_
          obtain ⟨r84, hc84, hok⟩ := k_bind hok
          refine kCi (wc := (wX8_ringOfCell cy )) (wc2 := (wX8_ringOfCell cy )) (wr := [(aU, oX7 vU qU), (qU 3, rI cy 6 vU_nights), (aD, oX1 vD qD), (qD 0, rI cy 9 vD_now), (qU 1, rI cy 6 vU_things), (qU 2, rI cy 6 vU_cells)]) (ws2 := (wX7_withinReach cy aU aD qU qD vU vU_nights vD vD_now vU_things vU_cells)) (kRunSN (As := [.int (vU_cells y4_5.toNatClampNeg)]) (rest := [.int r74]) ⟨hx, hb, hml, hown, ht0⟩ (kX8_ringOfCell l D cy _ (vU_cells y4_5.toNatClampNeg) r84 hc84 _ rfl) ⟨va_cnB 1 ht0 (gN wd56) rfl rfl rfl (hN _ (List.mem_of_getElem? (i := 7) rfl)) (ht0 _ wd57) (by decide +kernel) ⟨Nat.le_of_ble_eq_true rfl, Nat.le_of_ble_eq_true rfl⟩, ht0 _ wd58, trivial⟩ hK hN hP hD [] rfl (by decide) rfl hl.1 rfl (Nat.le_of_ble_eq_true rfl) dX7_withinReach_84 ⟨Nat.zero_le _, Nat.zero_le _⟩) hP hD hS hA [] [0, 1, 2, 3, 4, 5] rfl rfl (by decide) (by decide) [0, 1, 2, 3, 4, 5] (by decide) rfl rfl (fun H locs hP hD hS => ?_)
          refine lv_icmp_ne (tgt := 97) hx hb dX7_withinReach_87 (by decide) (fun c87 => ?_) (fun c87 => ?_)
          · have hok := k_neg c87 hok
            exact J97 y3_5 H locs ls hP hD hS (lv_sub hl [1, 2, 3, 4, 5] rfl) hok
          · have hok := k_pos c87 hok
            refine lv_iload_n hx hb dX7_withinReach_90 rfl (lv_at hl 4 rfl) ?_
            refine lv_iconst (v := 1) hx hb dX7_withinReach_91 (by decide) ?_
            refine lv_iload hx hb dX7_withinReach_92 (lv_at hl 5 rfl) ?_
            refine lv_ishl hx hb dX7_withinReach_94 ?_
            refine lv_ior hx hb dX7_withinReach_95 ?_
            refine lv_istore_n (lv' := [(3, .int (y3_5 ||| (isl (1 : Int32) y4_5))), (5, .int t0_56), (0, .ref aU), (1, .ref aD), (2, .int x2), (4, .int y4_5)]) hx hb dX7_withinReach_96 rfl hl (by decide) rfl (fun ls hl => ?_)
            exact J97 (y3_5 ||| (isl (1 : Int32) y4_5)) H locs ls hP hD hS (lv_sub hl [2, 3, 4, 0, 5] rfl) hok
      have J55 : ∀ (H : Heap) (locs : List Loc) (ls : Array Slot), va_P D vwCl (wX7_withinReach cy aU aD qU qD vU vU_nights vD vD_now vU_things vU_cells) H → va_D A (wX7_withinReach cy aU aD qU qD vU vU_nights vD vD_now vU_things vU_cells) → va_S A s.heap H locs → lv_has ls 6 [(0, .ref aU), (1, .ref aD), (2, .int x2), (3, .int y3_5), (4, .int y4_5)] → fX7_withinReach_J55 vD vD_now vU_things vU_cells y3_5 y4_5 = some y5 → W p l e ({ frames := 1, cells := 0, slots := 0, locals := 21 } : Room) s m ([.ref aU, .ref aD, .int x2] : List Value).toArray below meth c H locs 0 0 Q (F0 m 55 ls []) := by
        intro  H locs ls hP hD hS hl hok
        unfold fX7_withinReach_J55 at hok
        refine lv_iconst (v := 0) hx hb dX7_withinReach_55 (by decide) ?_
        exact J56 (0 : Int32) H locs ls hP hD hS (lv_sub hl [0, 1, 2, 3, 4] rfl) hok
      unfold fX7_withinReach_B5 at hok
      try dsimp only at hok
      refine lv_iload hx hb dX7_withinReach_5 (lv_at hl 4 rfl) ?_
      refine lv_aload_n hx hb dX7_withinReach_7 rfl (lv_at hl 0 rfl) ?_
      refine va_get (D := D) (ci := 6) (v := .int (vU 0)) (C := RX7) (T := TX7) (N := 5) hx hb ht0 niX7 hown hK hP 0 rfl rfl 0 (by decide) (ht0 _ wd202) (fun _ h9 => h9) rfl dX7_withinReach_8 ?_
      refine lv_icmp_ge (tgt := 103) hx hb dX7_withinReach_11 (by decide) (fun c11 => ?_) (fun c11 => ?_)
      · have hok := k_pos c11 hok
        obtain ⟨e5, hok, he5⟩ := ex_some hok
        have hok := hok.trans (congrArg some (hL5 _ he5))
        exact J103 y3_5 H locs ls hP hD hS (lv_sub hl [3] rfl) hok
      · have hok := k_neg c11 hok
        refine lv_iload hx hb dX7_withinReach_14 (lv_at hl 4 rfl) ?_
        refine lv_bipush (v := 6) hx hb dX7_withinReach_16 (by decide) ?_
        refine lv_icmp_ge (tgt := 103) hx hb dX7_withinReach_18 (by decide) (fun c18 => ?_) (fun c18 => ?_)
        · have hok := k_pos c18 hok
          obtain ⟨e5, hok, he5⟩ := ex_some hok
          have hok := hok.trans (congrArg some (hL5 _ he5))
          exact J103 y3_5 H locs ls hP hD hS (lv_sub hl [3] rfl) hok
        · have hok := k_neg c18 hok
          refine lv_aload_n hx hb dX7_withinReach_21 rfl (lv_at hl 0 rfl) ?_
          refine va_get (D := D) (ci := 6) (v := .ref (qU 3)) (C := RX7) (T := TX7) (N := 5) hx hb ht0 niX7 hown hK hP 0 rfl rfl 3 (by decide) (ht0 _ wd203) (fun _ h9 => h9) rfl dX7_withinReach_22 ?_
          refine lv_iload hx hb dX7_withinReach_25 (lv_at hl 4 rfl) ?_
          obtain ⟨g27, hok⟩ := gd_some hok
          refine va_iald hx hb hK hP 1 0 rfl rfl (okI_in g27) dX7_withinReach_27 ?_
          refine lv_aload_n hx hb dX7_withinReach_28 rfl (lv_at hl 1 rfl) ?_
          obtain ⟨r29, hc29, hok⟩ := k_bind hok
          refine kCi (wc := (wX1_nightNow cy aD qD vD vD_now)) (wc2 := (wX1_nightNow cy aD qD vD vD_now)) (wr := [(aU, oX7 vU qU), (qU 3, rI cy 6 vU_nights), (qU 1, rI cy 6 vU_things), (qU 2, rI cy 6 vU_cells)]) (ws2 := (wX7_withinReach cy aU aD qU qD vU vU_nights vD vD_now vU_things vU_cells)) (kRunV (As := []) (rest := [.int (vU_nights y4_5.toNatClampNeg)]) ⟨hx, hb, hml, hown, ht0⟩ (kX1_nightNow l D cy _ aD qD vD vD_now r29 hc29 _ rfl) (cwV 0 ht0 (gV wd204 wd117 wd118 wd74 wd119) rfl rfl rfl (by decide +kernel) ⟨Nat.le_of_ble_eq_true rfl, Nat.le_of_ble_eq_true rfl⟩) hK hN hP hD [2, 3] rfl (by decide) 2 1 rfl rfl rfl hl.1 rfl (Nat.le_of_ble_eq_true rfl) dX7_withinReach_29 ⟨Nat.zero_le _, Nat.zero_le _⟩) hP hD hS hA [2, 3] [0, 1, 4, 5] rfl rfl (by decide) (by decide) [0, 1, 4, 5, 2, 3] (by decide) rfl rfl (fun H locs hP hD hS => ?_)
          refine lv_icmp_le (tgt := 55) hx hb dX7_withinReach_32 (by decide) (fun c32 => ?_) (fun c32 => ?_)
          · have hok := k_pos c32 hok
            exact J55  H locs ls hP hD hS (lv_sub hl [0, 1, 2, 3, 4] rfl) hok
          · have hok := k_neg c32 hok
            refine lv_aload_n hx hb dX7_withinReach_35 rfl (lv_at hl 0 rfl) ?_
            refine va_get (D := D) (ci := 6) (v := .ref (qU 3)) (C := RX7) (T := TX7) (N := 5) hx hb ht0 niX7 hown hK hP 0 rfl rfl 3 (by decide) (ht0 _ wd203) (fun _ h9 => h9) rfl dX7_withinReach_36 ?_
            refine lv_iload hx hb dX7_withinReach_39 (lv_at hl 4 rfl) ?_
            obtain ⟨g41, hok⟩ := gd_some hok
            refine va_iald hx hb hK hP 1 0 rfl rfl (okI_in g41) dX7_withinReach_41 ?_
            refine lv_aload_n hx hb dX7_withinReach_42 rfl (lv_at hl 1 rfl) ?_
            obtain ⟨r43, hc43, hok⟩ := k_bind hok
            refine kCi (wc := (wX1_nightNow cy aD qD vD vD_now)) (wc2 := (wX1_nightNow cy aD qD vD vD_now)) (wr := [(aU, oX7 vU qU), (qU 3, rI cy 6 vU_nights), (qU 1, rI cy 6 vU_things), (qU 2, rI cy 6 vU_cells)]) (ws2 := (wX7_withinReach cy aU aD qU qD vU vU_nights vD vD_now vU_things vU_cells)) (kRunV (As := []) (rest := [.int (vU_nights y4_5.toNatClampNeg)]) ⟨hx, hb, hml, hown, ht0⟩ (kX1_nightNow l D cy _ aD qD vD vD_now r43 hc43 _ rfl) (cwV 0 ht0 (gV wd204 wd117 wd118 wd74 wd119) rfl rfl rfl (by decide +kernel) ⟨Nat.le_of_ble_eq_true rfl, Nat.le_of_ble_eq_true rfl⟩) hK hN hP hD [2, 3] rfl (by decide) 2 1 rfl rfl rfl hl.1 rfl (Nat.le_of_ble_eq_true rfl) dX7_withinReach_43 ⟨Nat.zero_le _, Nat.zero_le _⟩) hP hD hS hA [2, 3] [0, 1, 4, 5] rfl rfl (by decide) (by decide) [0, 1, 4, 5, 2, 3] (by decide) rfl rfl (fun H locs hP hD hS => ?_)
            refine lv_iload_n hx hb dX7_withinReach_46 rfl (lv_at hl 2 rfl) ?_
            refine lv_iadd hx hb dX7_withinReach_47 ?_
            refine lv_icmp_gt (tgt := 55) hx hb dX7_withinReach_48 (by decide) (fun c48 => ?_) (fun c48 => ?_)
            · have hok := k_pos c48 hok
              exact J55  H locs ls hP hD hS (lv_sub hl [0, 1, 2, 3, 4] rfl) hok
            · have hok := k_neg c48 hok
              refine lv_iconst (v := 1) hx hb dX7_withinReach_51 (by decide) ?_
              refine lv_goto (tgt := 56) hx hb dX7_withinReach_52 (by decide) ?_
              exact J56 (1 : Int32) H locs ls hP hD hS (lv_sub hl [0, 1, 2, 3, 4] rfl) hok
  unfold fX7_withinReach at hok
  obtain ⟨H, hH⟩ : ∃ H, H = s.heap := ⟨_, rfl⟩
  obtain ⟨locs, hlc⟩ : ∃ x : List Loc, x = [] := ⟨_, rfl⟩
  have hP : va_P D vwCl (wX7_withinReach cy aU aD qU qD vU vU_nights vD vD_now vU_things vU_cells) H := by rw [hH]; exact hP
  have hS : va_S A s.heap H locs := by rw [hH, hlc]; exact hS
  rw [show W p l e _ s m _ below meth c s.heap [] = W p l e _ s m _ below meth c H locs from by rw [hH, hlc]]
  refine lv_iconst (v := 0) hx hb dX7_withinReach_0 (by decide) ?_
  refine lv_istore_n (lv' := [(3, .int 0), (0, .ref aU), (1, .ref aD), (2, .int x2)]) hx hb dX7_withinReach_1 rfl hl (by decide) rfl (fun ls hl => ?_)
  refine lv_iconst (v := 0) hx hb dX7_withinReach_2 (by decide) ?_
  refine lv_istore (lv' := [(4, .int 0), (3, .int 0), (0, .ref aU), (1, .ref aD), (2, .int x2)]) hx hb dX7_withinReach_3 hl (by decide) rfl (fun ls hl => ?_)
  exact L5 5000 (0 : Int32) (0 : Int32) H locs ls hP hD hS (lv_sub hl [2, 3, 4, 1, 0] rfl) hok
def wsX7_ofRing : List Cond := .code yX7_ofRing cX7_ofRing 5 (some .int) :: W0
abbrev wX7_ofRing (cy : Nat → ClassId) (aU : Nat) (qU : Nat → Nat) (vU : Nat → Int32) (vU_cells : Nat → Int32) : va_W := [(aU, oX7 vU qU), (qU 2, rI cy 6 vU_cells)]
set_option maxHeartbeats 4000000 in
set_option maxRecDepth 100000 in
theorem kX7_ofRing (l : Launch) (D : va_G) (cy : Nat → ClassId) (sz : Nat) (aU : Nat) (qU : Nat → Nat) (vU : Nat → Int32) (vU_cells : Nat → Int32) (x1 : Int32) (x2 : Int32) (zr : Int32) (hok : fX7_ofRing vU vU_cells x1 x2 = some zr) (A : Nat → Prop) (hAe : va_A (wX7_ofRing cy aU qU vU vU_cells) sz = A) : Met l yX7_ofRing wsX7_ofRing ({ frames := 1, cells := 0, slots := 0, locals := 20 } : Room) (kPre D cy [.ref aU, .int x1, .int x2] (wX7_ofRing cy aU qU vU vU_cells) sz) (kQi D cy zr A (wX7_ofRing cy aU qU vU vU_cells)) 0 0 A := by
  refine Met.ofW (cc := cX7_ofRing) (maxL := 5) (ret := (some .int)) (by decide) rfl ?_
  intro p e s m args below meth c s₁ B hml hv
  obtain ⟨rfl, hsz, hP, hK, hD0, hN⟩ := hv
  have hx := B.exec
  have hb := B.bytes
  have hr := B.returns
  have ht0 : ∀ w ∈ W0, w.before _ s = true := fun w h => atoms_spec (ws := wsX7_ofRing) B.pre w (List.mem_cons_of_mem _ h)
  have hown : s.vm.findClass RX7 = some m.cls := findClass_of_methodNamed B.named
  have hlocks := B.notSynchronized
  subst hsz
  have hD : va_D A (wX7_ofRing cy aU qU vU vU_cells) := by rw [← hAe]; exact hD0.self
  have hA : ∀ q : Nat, s.heap.size ≤ q → A q := fun q h => by rw [← hAe]; exact Or.inr h
  have hS : va_S A s.heap s.heap [] := va_S.rf
  have hl := lv_entry ([.ref aU, .int x1, .int x2]) (n := 5) (Nat.le_of_ble_eq_true rfl)
  rw [lg_entry_eq]
  generalize (lg_sl ([.ref aU, .int x1, .int x2]) ++ List.replicate (5 - (lg_sl ([.ref aU, .int x1, .int x2])).length) Slot.unset).toArray = ls at hl ⊢
  have hl : lv_has ls 5 [(0, .ref aU), (1, .int x1), (2, .int x2)] := hl
  generalize hQe : MQ below (kQi D cy zr A (wX7_ofRing cy aU qU vU vU_cells)) ([.ref aU, .int x1, .int x2] : List Value).toArray s 0 0 A = Q
  have J57 : ∀ (y3_57 : Int32), ∀ (H : Heap) (locs : List Loc) (ls : Array Slot), va_P D vwCl (wX7_ofRing cy aU qU vU vU_cells) H → va_D A (wX7_ofRing cy aU qU vU vU_cells) → va_S A s.heap H locs → lv_has ls 5 [(3, .int y3_57)] → fX7_ofRing_J57 y3_57 = some zr → W p l e ({ frames := 1, cells := 0, slots := 0, locals := 20 } : Room) s m ([.ref aU, .int x1, .int x2] : List Value).toArray below meth c H locs 0 0 Q (F0 m 57 ls []) := by
    intro y3_57 H locs ls hP hD hS hl hok
    unfold fX7_ofRing_J57 at hok
    refine lv_iload_n hx hb dX7_ofRing_57 rfl (lv_at hl 0 rfl) ?_
    cases hok
    subst hQe; exact W.iret hx hb hr (fun t ht hW => ⟨⟨_, (), rfl, rfl, by rw [ht]; exact hP, va_K.moved hW.alike hK, hD⟩, hS.F ht⟩) hS.2.2 dX7_ofRing_58
  have L5 : ∀ (fuel : Nat) (y3_5 : Int32) (y4_5 : Int32), ∀ (H : Heap) (locs : List Loc) (ls : Array Slot), va_P D vwCl (wX7_ofRing cy aU qU vU vU_cells) H → va_D A (wX7_ofRing cy aU qU vU vU_cells) → va_S A s.heap H locs → lv_has ls 5 [(0, .ref aU), (1, .int x1), (2, .int x2), (3, .int y3_5), (4, .int y4_5)] → lp (fX7_ofRing_B5 vU vU_cells x1 x2) fuel (y3_5, y4_5) = some zr → W p l e ({ frames := 1, cells := 0, slots := 0, locals := 20 } : Room) s m ([.ref aU, .int x1, .int x2] : List Value).toArray below meth c H locs 0 0 Q (F0 m 5 ls []) := by
    intro fuel
    induction fuel with
    | zero => intro y3_5 y4_5 H locs ls hP hD hS hl hok; exact (lp_0 hok).elim
    | succ fuel ih5 =>
      intro y3_5 y4_5 H locs ls hP hD hS hl hok
      obtain ⟨y5, hok, hL5, hR5⟩ := lp_step hok
      have J51 : ∀ (y3_51 : Int32), ∀ (H : Heap) (locs : List Loc) (ls : Array Slot), va_P D vwCl (wX7_ofRing cy aU qU vU vU_cells) H → va_D A (wX7_ofRing cy aU qU vU vU_cells) → va_S A s.heap H locs → lv_has ls 5 [(0, .ref aU), (1, .int x1), (2, .int x2), (3, .int y3_51), (4, .int y4_5)] → fX7_ofRing_J51 y4_5 y3_51 = some y5 → W p l e ({ frames := 1, cells := 0, slots := 0, locals := 20 } : Room) s m ([.ref aU, .int x1, .int x2] : List Value).toArray below meth c H locs 0 0 Q (F0 m 51 ls []) := by
        intro y3_51 H locs ls hP hD hS hl hok
        unfold fX7_ofRing_J51 at hok
        refine lv_iinc (v := (y4_5 + 1)) (lv' := [(4, .int (y4_5 + 1)), (0, .ref aU), (1, .int x1), (2, .int x2), (3, .int y3_51)]) hx hb dX7_ofRing_51 hl (k := 4) rfl (by first | rfl | decide) (by decide) rfl (fun ls hl => ?_)
        refine lv_goto (tgt := 5) hx hb dX7_ofRing_54 (by decide) ?_
        exact ih5 y3_51 (y4_5 + 1) H locs ls hP hD hS (lv_sub hl [1, 2, 3, 4, 0] rfl) (hR5 _ (Option.some.inj hok).symm)
      unfold fX7_ofRing_B5 at hok
      try dsimp only at hok
      refine lv_iload hx hb dX7_ofRing_5 (lv_at hl 4 rfl) ?_
      refine lv_aload_n hx hb dX7_ofRing_7 rfl (lv_at hl 0 rfl) ?_
      refine va_get (D := D) (ci := 6) (v := .int (vU 0)) (C := RX7) (T := TX7) (N := 5) hx hb ht0 niX7 hown hK hP 0 rfl rfl 0 (by decide) (ht0 _ wd202) (fun _ h9 => h9) rfl dX7_ofRing_8 ?_
      refine lv_icmp_ge (tgt := 57) hx hb dX7_ofRing_11 (by decide) (fun c11 => ?_) (fun c11 => ?_)
      · have hok := k_pos c11 hok
        obtain ⟨e5, hok, he5⟩ := ex_some hok
        have hok := hok.trans (congrArg some (hL5 _ he5))
        exact J57 y3_5 H locs ls hP hD hS (lv_sub hl [3] rfl) hok
      · have hok := k_neg c11 hok
        refine lv_iload hx hb dX7_ofRing_14 (lv_at hl 4 rfl) ?_
        refine lv_bipush (v := 6) hx hb dX7_ofRing_16 (by decide) ?_
        refine lv_icmp_ge (tgt := 57) hx hb dX7_ofRing_18 (by decide) (fun c18 => ?_) (fun c18 => ?_)
        · have hok := k_pos c18 hok
          obtain ⟨e5, hok, he5⟩ := ex_some hok
          have hok := hok.trans (congrArg some (hL5 _ he5))
          exact J57 y3_5 H locs ls hP hD hS (lv_sub hl [3] rfl) hok
        · have hok := k_neg c18 hok
          refine lv_iload_n hx hb dX7_ofRing_21 rfl (lv_at hl 1 rfl) ?_
          refine lv_iload hx hb dX7_ofRing_22 (lv_at hl 4 rfl) ?_
          refine lv_ishr hx hb dX7_ofRing_24 ?_
          refine lv_iconst (v := 1) hx hb dX7_ofRing_25 (by decide) ?_
          refine lv_iand hx hb dX7_ofRing_26 ?_
          refine lv_if_eq (tgt := 51) hx hb dX7_ofRing_27 (by decide) (fun c27 => ?_) (fun c27 => ?_)
          · have hok := k_pos c27 hok
            exact J51 y3_5 H locs ls hP hD hS (lv_sub hl [0, 1, 2, 3, 4] rfl) hok
          · have hok := k_neg c27 hok
            refine lv_aload_n hx hb dX7_ofRing_30 rfl (lv_at hl 0 rfl) ?_
            refine va_get (D := D) (ci := 6) (v := .ref (qU 2)) (C := RX7) (T := TX7) (N := 5) hx hb ht0 niX7 hown hK hP 0 rfl rfl 2 (by decide) (ht0 _ wd201) (fun _ h9 => h9) rfl dX7_ofRing_31 ?_
            refine lv_iload hx hb dX7_ofRing_34 (lv_at hl 4 rfl) ?_
            obtain ⟨g36, hok⟩ := gd_some hok
            refine va_iald hx hb hK hP 1 0 rfl rfl (okI_in g36) dX7_ofRing_36 ?_
            obtain ⟨r37, hc37, hok⟩ := k_bind hok
            refine kCi (wc := (wX8_ringOfCell cy )) (wc2 := (wX8_ringOfCell cy )) (wr := [(aU, oX7 vU qU), (qU 2, rI cy 6 vU_cells)]) (ws2 := (wX7_ofRing cy aU qU vU vU_cells)) (kRunSN (As := [.int (vU_cells y4_5.toNatClampNeg)]) (rest := []) ⟨hx, hb, hml, hown, ht0⟩ (kX8_ringOfCell l D cy _ (vU_cells y4_5.toNatClampNeg) r37 hc37 _ rfl) ⟨va_cnB 1 ht0 (gN wd56) rfl rfl rfl (hN _ (List.mem_of_getElem? (i := 7) rfl)) (ht0 _ wd57) (by decide +kernel) ⟨Nat.le_of_ble_eq_true rfl, Nat.le_of_ble_eq_true rfl⟩, ht0 _ wd58, trivial⟩ hK hN hP hD [] rfl (by decide) rfl hl.1 rfl (Nat.le_of_ble_eq_true rfl) dX7_ofRing_37 ⟨Nat.zero_le _, Nat.zero_le _⟩) hP hD hS hA [] [0, 1] rfl rfl (by decide) (by decide) [0, 1] (by decide) rfl rfl (fun H locs hP hD hS => ?_)
            refine lv_iload_n hx hb dX7_ofRing_40 rfl (lv_at hl 2 rfl) ?_
            refine lv_icmp_ne (tgt := 51) hx hb dX7_ofRing_41 (by decide) (fun c41 => ?_) (fun c41 => ?_)
            · have hok := k_neg c41 hok
              exact J51 y3_5 H locs ls hP hD hS (lv_sub hl [0, 1, 2, 3, 4] rfl) hok
            · have hok := k_pos c41 hok
              refine lv_iload_n hx hb dX7_ofRing_44 rfl (lv_at hl 3 rfl) ?_
              refine lv_iconst (v := 1) hx hb dX7_ofRing_45 (by decide) ?_
              refine lv_iload hx hb dX7_ofRing_46 (lv_at hl 4 rfl) ?_
              refine lv_ishl hx hb dX7_ofRing_48 ?_
              refine lv_ior hx hb dX7_ofRing_49 ?_
              refine lv_istore_n (lv' := [(3, .int (y3_5 ||| (isl (1 : Int32) y4_5))), (0, .ref aU), (1, .int x1), (2, .int x2), (4, .int y4_5)]) hx hb dX7_ofRing_50 rfl hl (by decide) rfl (fun ls hl => ?_)
              exact J51 (y3_5 ||| (isl (1 : Int32) y4_5)) H locs ls hP hD hS (lv_sub hl [1, 2, 3, 0, 4] rfl) hok
  unfold fX7_ofRing at hok
  obtain ⟨H, hH⟩ : ∃ H, H = s.heap := ⟨_, rfl⟩
  obtain ⟨locs, hlc⟩ : ∃ x : List Loc, x = [] := ⟨_, rfl⟩
  have hP : va_P D vwCl (wX7_ofRing cy aU qU vU vU_cells) H := by rw [hH]; exact hP
  have hS : va_S A s.heap H locs := by rw [hH, hlc]; exact hS
  rw [show W p l e _ s m _ below meth c s.heap [] = W p l e _ s m _ below meth c H locs from by rw [hH, hlc]]
  refine lv_iconst (v := 0) hx hb dX7_ofRing_0 (by decide) ?_
  refine lv_istore_n (lv' := [(3, .int 0), (0, .ref aU), (1, .int x1), (2, .int x2)]) hx hb dX7_ofRing_1 rfl hl (by decide) rfl (fun ls hl => ?_)
  refine lv_iconst (v := 0) hx hb dX7_ofRing_2 (by decide) ?_
  refine lv_istore (lv' := [(4, .int 0), (3, .int 0), (0, .ref aU), (1, .int x1), (2, .int x2)]) hx hb dX7_ofRing_3 hl (by decide) rfl (fun ls hl => ?_)
  exact L5 5000 (0 : Int32) (0 : Int32) H locs ls hP hD hS (lv_sub hl [2, 3, 4, 1, 0] rfl) hok
def wsX7_worthOf : List Cond := .code yX7_worthOf cX7_worthOf 4 (some .int) :: W0
abbrev wX7_worthOf (cy : Nat → ClassId) (aU : Nat) (qU : Nat → Nat) (vU : Nat → Int32) (vU_worths : Nat → Int32) : va_W := [(aU, oX7 vU qU), (qU 4, rI cy 6 vU_worths)]
set_option maxHeartbeats 4000000 in
set_option maxRecDepth 100000 in
theorem kX7_worthOf (l : Launch) (D : va_G) (cy : Nat → ClassId) (sz : Nat) (aU : Nat) (qU : Nat → Nat) (vU : Nat → Int32) (vU_worths : Nat → Int32) (x1 : Int32) (zr : Int32) (hok : fX7_worthOf vU vU_worths x1 = some zr) (A : Nat → Prop) (hAe : va_A (wX7_worthOf cy aU qU vU vU_worths) sz = A) : Met l yX7_worthOf wsX7_worthOf ({ frames := 0, cells := 0, slots := 0, locals := 0 } : Room) (kPre D cy [.ref aU, .int x1] (wX7_worthOf cy aU qU vU vU_worths) sz) (kQi D cy zr A (wX7_worthOf cy aU qU vU vU_worths)) 0 0 A := by
  refine Met.ofW (cc := cX7_worthOf) (maxL := 4) (ret := (some .int)) (by decide) rfl ?_
  intro p e s m args below meth c s₁ B hml hv
  obtain ⟨rfl, hsz, hP, hK, hD0, hN⟩ := hv
  have hx := B.exec
  have hb := B.bytes
  have hr := B.returns
  have ht0 : ∀ w ∈ W0, w.before _ s = true := fun w h => atoms_spec (ws := wsX7_worthOf) B.pre w (List.mem_cons_of_mem _ h)
  have hown : s.vm.findClass RX7 = some m.cls := findClass_of_methodNamed B.named
  have hlocks := B.notSynchronized
  subst hsz
  have hD : va_D A (wX7_worthOf cy aU qU vU vU_worths) := by rw [← hAe]; exact hD0.self
  have hA : ∀ q : Nat, s.heap.size ≤ q → A q := fun q h => by rw [← hAe]; exact Or.inr h
  have hS : va_S A s.heap s.heap [] := va_S.rf
  have hl := lv_entry ([.ref aU, .int x1]) (n := 4) (Nat.le_of_ble_eq_true rfl)
  rw [lg_entry_eq]
  generalize (lg_sl ([.ref aU, .int x1]) ++ List.replicate (4 - (lg_sl ([.ref aU, .int x1])).length) Slot.unset).toArray = ls at hl ⊢
  have hl : lv_has ls 4 [(0, .ref aU), (1, .int x1)] := hl
  generalize hQe : MQ below (kQi D cy zr A (wX7_worthOf cy aU qU vU vU_worths)) ([.ref aU, .int x1] : List Value).toArray s 0 0 A = Q
  have J41 : ∀ (y2_41 : Int32), ∀ (H : Heap) (locs : List Loc) (ls : Array Slot), va_P D vwCl (wX7_worthOf cy aU qU vU vU_worths) H → va_D A (wX7_worthOf cy aU qU vU vU_worths) → va_S A s.heap H locs → lv_has ls 4 [(2, .int y2_41)] → fX7_worthOf_J41 y2_41 = some zr → W p l e ({ frames := 0, cells := 0, slots := 0, locals := 0 } : Room) s m ([.ref aU, .int x1] : List Value).toArray below meth c H locs 0 0 Q (F0 m 41 ls []) := by
    intro y2_41 H locs ls hP hD hS hl hok
    unfold fX7_worthOf_J41 at hok
    refine lv_iload_n hx hb dX7_worthOf_41 rfl (lv_at hl 0 rfl) ?_
    cases hok
    subst hQe; exact W.iret hx hb hr (fun t ht hW => ⟨⟨_, (), rfl, rfl, by rw [ht]; exact hP, va_K.moved hW.alike hK, hD⟩, hS.F ht⟩) hS.2.2 dX7_worthOf_42
  have L4 : ∀ (fuel : Nat) (y2_4 : Int32) (y3_4 : Int32), ∀ (H : Heap) (locs : List Loc) (ls : Array Slot), va_P D vwCl (wX7_worthOf cy aU qU vU vU_worths) H → va_D A (wX7_worthOf cy aU qU vU vU_worths) → va_S A s.heap H locs → lv_has ls 4 [(0, .ref aU), (1, .int x1), (2, .int y2_4), (3, .int y3_4)] → lp (fX7_worthOf_B4 vU vU_worths x1) fuel (y2_4, y3_4) = some zr → W p l e ({ frames := 0, cells := 0, slots := 0, locals := 0 } : Room) s m ([.ref aU, .int x1] : List Value).toArray below meth c H locs 0 0 Q (F0 m 4 ls []) := by
    intro fuel
    induction fuel with
    | zero => intro y2_4 y3_4 H locs ls hP hD hS hl hok; exact (lp_0 hok).elim
    | succ fuel ih4 =>
      intro y2_4 y3_4 H locs ls hP hD hS hl hok
      obtain ⟨y4, hok, hL4, hR4⟩ := lp_step hok
      have J35 : ∀ (y2_35 : Int32), ∀ (H : Heap) (locs : List Loc) (ls : Array Slot), va_P D vwCl (wX7_worthOf cy aU qU vU vU_worths) H → va_D A (wX7_worthOf cy aU qU vU vU_worths) → va_S A s.heap H locs → lv_has ls 4 [(0, .ref aU), (1, .int x1), (2, .int y2_35), (3, .int y3_4)] → fX7_worthOf_J35 y3_4 y2_35 = some y4 → W p l e ({ frames := 0, cells := 0, slots := 0, locals := 0 } : Room) s m ([.ref aU, .int x1] : List Value).toArray below meth c H locs 0 0 Q (F0 m 35 ls []) := by
        intro y2_35 H locs ls hP hD hS hl hok
        unfold fX7_worthOf_J35 at hok
        refine lv_iinc (v := (y3_4 + 1)) (lv' := [(3, .int (y3_4 + 1)), (0, .ref aU), (1, .int x1), (2, .int y2_35)]) hx hb dX7_worthOf_35 hl (k := 3) rfl (by first | rfl | decide) (by decide) rfl (fun ls hl => ?_)
        refine lv_goto (tgt := 4) hx hb dX7_worthOf_38 (by decide) ?_
        exact ih4 y2_35 (y3_4 + 1) H locs ls hP hD hS (lv_sub hl [1, 2, 3, 0] rfl) (hR4 _ (Option.some.inj hok).symm)
      unfold fX7_worthOf_B4 at hok
      try dsimp only at hok
      refine lv_iload_n hx hb dX7_worthOf_4 rfl (lv_at hl 3 rfl) ?_
      refine lv_aload_n hx hb dX7_worthOf_5 rfl (lv_at hl 0 rfl) ?_
      refine va_get (D := D) (ci := 6) (v := .int (vU 0)) (C := RX7) (T := TX7) (N := 5) hx hb ht0 niX7 hown hK hP 0 rfl rfl 0 (by decide) (ht0 _ wd202) (fun _ h9 => h9) rfl dX7_worthOf_6 ?_
      refine lv_icmp_ge (tgt := 41) hx hb dX7_worthOf_9 (by decide) (fun c9 => ?_) (fun c9 => ?_)
      · have hok := k_pos c9 hok
        obtain ⟨e4, hok, he4⟩ := ex_some hok
        have hok := hok.trans (congrArg some (hL4 _ he4))
        exact J41 y2_4 H locs ls hP hD hS (lv_sub hl [2] rfl) hok
      · have hok := k_neg c9 hok
        refine lv_iload_n hx hb dX7_worthOf_12 rfl (lv_at hl 3 rfl) ?_
        refine lv_bipush (v := 6) hx hb dX7_worthOf_13 (by decide) ?_
        refine lv_icmp_ge (tgt := 41) hx hb dX7_worthOf_15 (by decide) (fun c15 => ?_) (fun c15 => ?_)
        · have hok := k_pos c15 hok
          obtain ⟨e4, hok, he4⟩ := ex_some hok
          have hok := hok.trans (congrArg some (hL4 _ he4))
          exact J41 y2_4 H locs ls hP hD hS (lv_sub hl [2] rfl) hok
        · have hok := k_neg c15 hok
          refine lv_iload_n hx hb dX7_worthOf_18 rfl (lv_at hl 1 rfl) ?_
          refine lv_iload_n hx hb dX7_worthOf_19 rfl (lv_at hl 3 rfl) ?_
          refine lv_ishr hx hb dX7_worthOf_20 ?_
          refine lv_iconst (v := 1) hx hb dX7_worthOf_21 (by decide) ?_
          refine lv_iand hx hb dX7_worthOf_22 ?_
          refine lv_if_eq (tgt := 35) hx hb dX7_worthOf_23 (by decide) (fun c23 => ?_) (fun c23 => ?_)
          · have hok := k_pos c23 hok
            exact J35 y2_4 H locs ls hP hD hS (lv_sub hl [0, 1, 2, 3] rfl) hok
          · have hok := k_neg c23 hok
            refine lv_iload_n hx hb dX7_worthOf_26 rfl (lv_at hl 2 rfl) ?_
            refine lv_aload_n hx hb dX7_worthOf_27 rfl (lv_at hl 0 rfl) ?_
            refine va_get (D := D) (ci := 6) (v := .ref (qU 4)) (C := RX7) (T := TX7) (N := 5) hx hb ht0 niX7 hown hK hP 0 rfl rfl 4 (by decide) (ht0 _ wd205) (fun _ h9 => h9) rfl dX7_worthOf_28 ?_
            refine lv_iload_n hx hb dX7_worthOf_31 rfl (lv_at hl 3 rfl) ?_
            obtain ⟨g32, hok⟩ := gd_some hok
            refine va_iald hx hb hK hP 1 0 rfl rfl (okI_in g32) dX7_worthOf_32 ?_
            refine lv_iadd hx hb dX7_worthOf_33 ?_
            refine lv_istore_n (lv' := [(2, .int (y2_4 + (vU_worths y3_4.toNatClampNeg))), (0, .ref aU), (1, .int x1), (3, .int y3_4)]) hx hb dX7_worthOf_34 rfl hl (by decide) rfl (fun ls hl => ?_)
            exact J35 (y2_4 + (vU_worths y3_4.toNatClampNeg)) H locs ls hP hD hS (lv_sub hl [1, 2, 0, 3] rfl) hok
  unfold fX7_worthOf at hok
  obtain ⟨H, hH⟩ : ∃ H, H = s.heap := ⟨_, rfl⟩
  obtain ⟨locs, hlc⟩ : ∃ x : List Loc, x = [] := ⟨_, rfl⟩
  have hP : va_P D vwCl (wX7_worthOf cy aU qU vU vU_worths) H := by rw [hH]; exact hP
  have hS : va_S A s.heap H locs := by rw [hH, hlc]; exact hS
  rw [show W p l e _ s m _ below meth c s.heap [] = W p l e _ s m _ below meth c H locs from by rw [hH, hlc]]
  refine lv_iconst (v := 0) hx hb dX7_worthOf_0 (by decide) ?_
  refine lv_istore_n (lv' := [(2, .int 0), (0, .ref aU), (1, .int x1)]) hx hb dX7_worthOf_1 rfl hl (by decide) rfl (fun ls hl => ?_)
  refine lv_iconst (v := 0) hx hb dX7_worthOf_2 (by decide) ?_
  refine lv_istore_n (lv' := [(3, .int 0), (2, .int 0), (0, .ref aU), (1, .int x1)]) hx hb dX7_worthOf_3 rfl hl (by decide) rfl (fun ls hl => ?_)
  exact L4 5000 (0 : Int32) (0 : Int32) H locs ls hP hD hS (lv_sub hl [2, 3, 1, 0] rfl) hok
def wsX7_lastNightOf : List Cond := .code yX7_lastNightOf cX7_lastNightOf 4 (some .int) :: W0
abbrev wX7_lastNightOf (cy : Nat → ClassId) (aU : Nat) (qU : Nat → Nat) (vU : Nat → Int32) (vU_nights : Nat → Int32) : va_W := [(aU, oX7 vU qU), (qU 3, rI cy 6 vU_nights)]
set_option maxHeartbeats 4000000 in
set_option maxRecDepth 100000 in
theorem kX7_lastNightOf (l : Launch) (D : va_G) (cy : Nat → ClassId) (sz : Nat) (aU : Nat) (qU : Nat → Nat) (vU : Nat → Int32) (vU_nights : Nat → Int32) (x1 : Int32) (zr : Int32) (hok : fX7_lastNightOf vU vU_nights x1 = some zr) (A : Nat → Prop) (hAe : va_A (wX7_lastNightOf cy aU qU vU vU_nights) sz = A) : Met l yX7_lastNightOf wsX7_lastNightOf ({ frames := 1, cells := 0, slots := 0, locals := 21 } : Room) (kPre D cy [.ref aU, .int x1] (wX7_lastNightOf cy aU qU vU vU_nights) sz) (kQi D cy zr A (wX7_lastNightOf cy aU qU vU vU_nights)) 0 0 A := by
  refine Met.ofW (cc := cX7_lastNightOf) (maxL := 4) (ret := (some .int)) (by decide) rfl ?_
  intro p e s m args below meth c s₁ B hml hv
  obtain ⟨rfl, hsz, hP, hK, hD0, hN⟩ := hv
  have hx := B.exec
  have hb := B.bytes
  have hr := B.returns
  have ht0 : ∀ w ∈ W0, w.before _ s = true := fun w h => atoms_spec (ws := wsX7_lastNightOf) B.pre w (List.mem_cons_of_mem _ h)
  have hown : s.vm.findClass RX7 = some m.cls := findClass_of_methodNamed B.named
  have hlocks := B.notSynchronized
  subst hsz
  have hD : va_D A (wX7_lastNightOf cy aU qU vU vU_nights) := by rw [← hAe]; exact hD0.self
  have hA : ∀ q : Nat, s.heap.size ≤ q → A q := fun q h => by rw [← hAe]; exact Or.inr h
  have hS : va_S A s.heap s.heap [] := va_S.rf
  have hl := lv_entry ([.ref aU, .int x1]) (n := 4) (Nat.le_of_ble_eq_true rfl)
  rw [lg_entry_eq]
  generalize (lg_sl ([.ref aU, .int x1]) ++ List.replicate (4 - (lg_sl ([.ref aU, .int x1])).length) Slot.unset).toArray = ls at hl ⊢
  have hl : lv_has ls 4 [(0, .ref aU), (1, .int x1)] := hl
  generalize hQe : MQ below (kQi D cy zr A (wX7_lastNightOf cy aU qU vU vU_nights)) ([.ref aU, .int x1] : List Value).toArray s 0 0 A = Q
  have J43 : ∀ (y2_43 : Int32), ∀ (H : Heap) (locs : List Loc) (ls : Array Slot), va_P D vwCl (wX7_lastNightOf cy aU qU vU vU_nights) H → va_D A (wX7_lastNightOf cy aU qU vU vU_nights) → va_S A s.heap H locs → lv_has ls 4 [(2, .int y2_43)] → fX7_lastNightOf_J43 y2_43 = some zr → W p l e ({ frames := 1, cells := 0, slots := 0, locals := 21 } : Room) s m ([.ref aU, .int x1] : List Value).toArray below meth c H locs 0 0 Q (F0 m 43 ls []) := by
    intro y2_43 H locs ls hP hD hS hl hok
    unfold fX7_lastNightOf_J43 at hok
    refine lv_iload_n hx hb dX7_lastNightOf_43 rfl (lv_at hl 0 rfl) ?_
    cases hok
    subst hQe; exact W.iret hx hb hr (fun t ht hW => ⟨⟨_, (), rfl, rfl, by rw [ht]; exact hP, va_K.moved hW.alike hK, hD⟩, hS.F ht⟩) hS.2.2 dX7_lastNightOf_44
  have L4 : ∀ (fuel : Nat) (y2_4 : Int32) (y3_4 : Int32), ∀ (H : Heap) (locs : List Loc) (ls : Array Slot), va_P D vwCl (wX7_lastNightOf cy aU qU vU vU_nights) H → va_D A (wX7_lastNightOf cy aU qU vU vU_nights) → va_S A s.heap H locs → lv_has ls 4 [(0, .ref aU), (1, .int x1), (2, .int y2_4), (3, .int y3_4)] → lp (fX7_lastNightOf_B4 vU vU_nights x1) fuel (y2_4, y3_4) = some zr → W p l e ({ frames := 1, cells := 0, slots := 0, locals := 21 } : Room) s m ([.ref aU, .int x1] : List Value).toArray below meth c H locs 0 0 Q (F0 m 4 ls []) := by
    intro fuel
    induction fuel with
    | zero => intro y2_4 y3_4 H locs ls hP hD hS hl hok; exact (lp_0 hok).elim
    | succ fuel ih4 =>
      intro y2_4 y3_4 H locs ls hP hD hS hl hok
      obtain ⟨y4, hok, hL4, hR4⟩ := lp_step hok
      have J37 : ∀ (y2_37 : Int32), ∀ (H : Heap) (locs : List Loc) (ls : Array Slot), va_P D vwCl (wX7_lastNightOf cy aU qU vU vU_nights) H → va_D A (wX7_lastNightOf cy aU qU vU vU_nights) → va_S A s.heap H locs → lv_has ls 4 [(0, .ref aU), (1, .int x1), (2, .int y2_37), (3, .int y3_4)] → fX7_lastNightOf_J37 y3_4 y2_37 = some y4 → W p l e ({ frames := 1, cells := 0, slots := 0, locals := 21 } : Room) s m ([.ref aU, .int x1] : List Value).toArray below meth c H locs 0 0 Q (F0 m 37 ls []) := by
        intro y2_37 H locs ls hP hD hS hl hok
        unfold fX7_lastNightOf_J37 at hok
        refine lv_iinc (v := (y3_4 + 1)) (lv' := [(3, .int (y3_4 + 1)), (0, .ref aU), (1, .int x1), (2, .int y2_37)]) hx hb dX7_lastNightOf_37 hl (k := 3) rfl (by first | rfl | decide) (by decide) rfl (fun ls hl => ?_)
        refine lv_goto (tgt := 4) hx hb dX7_lastNightOf_40 (by decide) ?_
        exact ih4 y2_37 (y3_4 + 1) H locs ls hP hD hS (lv_sub hl [1, 2, 3, 0] rfl) (hR4 _ (Option.some.inj hok).symm)
      unfold fX7_lastNightOf_B4 at hok
      try dsimp only at hok
      refine lv_iload_n hx hb dX7_lastNightOf_4 rfl (lv_at hl 3 rfl) ?_
      refine lv_aload_n hx hb dX7_lastNightOf_5 rfl (lv_at hl 0 rfl) ?_
      refine va_get (D := D) (ci := 6) (v := .int (vU 0)) (C := RX7) (T := TX7) (N := 5) hx hb ht0 niX7 hown hK hP 0 rfl rfl 0 (by decide) (ht0 _ wd202) (fun _ h9 => h9) rfl dX7_lastNightOf_6 ?_
      refine lv_icmp_ge (tgt := 43) hx hb dX7_lastNightOf_9 (by decide) (fun c9 => ?_) (fun c9 => ?_)
      · have hok := k_pos c9 hok
        obtain ⟨e4, hok, he4⟩ := ex_some hok
        have hok := hok.trans (congrArg some (hL4 _ he4))
        exact J43 y2_4 H locs ls hP hD hS (lv_sub hl [2] rfl) hok
      · have hok := k_neg c9 hok
        refine lv_iload_n hx hb dX7_lastNightOf_12 rfl (lv_at hl 3 rfl) ?_
        refine lv_bipush (v := 6) hx hb dX7_lastNightOf_13 (by decide) ?_
        refine lv_icmp_ge (tgt := 43) hx hb dX7_lastNightOf_15 (by decide) (fun c15 => ?_) (fun c15 => ?_)
        · have hok := k_pos c15 hok
          obtain ⟨e4, hok, he4⟩ := ex_some hok
          have hok := hok.trans (congrArg some (hL4 _ he4))
          exact J43 y2_4 H locs ls hP hD hS (lv_sub hl [2] rfl) hok
        · have hok := k_neg c15 hok
          refine lv_iload_n hx hb dX7_lastNightOf_18 rfl (lv_at hl 1 rfl) ?_
          refine lv_iload_n hx hb dX7_lastNightOf_19 rfl (lv_at hl 3 rfl) ?_
          refine lv_ishr hx hb dX7_lastNightOf_20 ?_
          refine lv_iconst (v := 1) hx hb dX7_lastNightOf_21 (by decide) ?_
          refine lv_iand hx hb dX7_lastNightOf_22 ?_
          refine lv_if_eq (tgt := 37) hx hb dX7_lastNightOf_23 (by decide) (fun c23 => ?_) (fun c23 => ?_)
          · have hok := k_pos c23 hok
            exact J37 y2_4 H locs ls hP hD hS (lv_sub hl [0, 1, 2, 3] rfl) hok
          · have hok := k_neg c23 hok
            refine lv_iload_n hx hb dX7_lastNightOf_26 rfl (lv_at hl 2 rfl) ?_
            refine lv_aload_n hx hb dX7_lastNightOf_27 rfl (lv_at hl 0 rfl) ?_
            refine va_get (D := D) (ci := 6) (v := .ref (qU 3)) (C := RX7) (T := TX7) (N := 5) hx hb ht0 niX7 hown hK hP 0 rfl rfl 3 (by decide) (ht0 _ wd203) (fun _ h9 => h9) rfl dX7_lastNightOf_28 ?_
            refine lv_iload_n hx hb dX7_lastNightOf_31 rfl (lv_at hl 3 rfl) ?_
            obtain ⟨g32, hok⟩ := gd_some hok
            refine va_iald hx hb hK hP 1 0 rfl rfl (okI_in g32) dX7_lastNightOf_32 ?_
            refine va_mmax hx hb (hml.trans hl.1.symm) hown (ht0 _ wd206) (ht0 _ wd36) (ht0 _ wd37) (ht0 _ wd38) (Nat.le_of_ble_eq_true rfl) (Nat.le_of_ble_eq_true rfl) (Nat.zero_le _) (Nat.zero_le _) dX7_lastNightOf_33 ?_
            refine lv_istore_n (lv' := [(2, .int (if y2_4 < (vU_nights y3_4.toNatClampNeg) then (vU_nights y3_4.toNatClampNeg) else y2_4)), (0, .ref aU), (1, .int x1), (3, .int y3_4)]) hx hb dX7_lastNightOf_36 rfl hl (by decide) rfl (fun ls hl => ?_)
            exact J37 (if y2_4 < (vU_nights y3_4.toNatClampNeg) then (vU_nights y3_4.toNatClampNeg) else y2_4) H locs ls hP hD hS (lv_sub hl [1, 2, 0, 3] rfl) hok
  unfold fX7_lastNightOf at hok
  obtain ⟨H, hH⟩ : ∃ H, H = s.heap := ⟨_, rfl⟩
  obtain ⟨locs, hlc⟩ : ∃ x : List Loc, x = [] := ⟨_, rfl⟩
  have hP : va_P D vwCl (wX7_lastNightOf cy aU qU vU vU_nights) H := by rw [hH]; exact hP
  have hS : va_S A s.heap H locs := by rw [hH, hlc]; exact hS
  rw [show W p l e _ s m _ below meth c s.heap [] = W p l e _ s m _ below meth c H locs from by rw [hH, hlc]]
  refine lv_iconst (v := 0) hx hb dX7_lastNightOf_0 (by decide) ?_
  refine lv_istore_n (lv' := [(2, .int 0), (0, .ref aU), (1, .int x1)]) hx hb dX7_lastNightOf_1 rfl hl (by decide) rfl (fun ls hl => ?_)
  refine lv_iconst (v := 0) hx hb dX7_lastNightOf_2 (by decide) ?_
  refine lv_istore_n (lv' := [(3, .int 0), (2, .int 0), (0, .ref aU), (1, .int x1)]) hx hb dX7_lastNightOf_3 rfl hl (by decide) rfl (fun ls hl => ?_)
  exact L4 5000 (0 : Int32) (0 : Int32) H locs ls hP hD hS (lv_sub hl [2, 3, 1, 0] rfl) hok
def wsX6_nightNow : List Cond := .code yX6_nightNow cX6_nightNow 1 (some .int) :: W0
abbrev wX6_nightNow (cy : Nat → ClassId) (aW : Nat) (qW : Nat → Nat) (aH : Nat) (vW : Nat → Int32) : va_W := [(aW, oX6 vW qW aH)]
set_option maxHeartbeats 4000000 in
set_option maxRecDepth 100000 in
theorem kX6_nightNow (l : Launch) (D : va_G) (cy : Nat → ClassId) (sz : Nat) (aW : Nat) (qW : Nat → Nat) (aH : Nat) (vW : Nat → Int32) (zr : Int32) (hok : fX6_nightNow vW = some zr) (A : Nat → Prop) (hAe : va_A (wX6_nightNow cy aW qW aH vW) sz = A) : Met l yX6_nightNow wsX6_nightNow ({ frames := 0, cells := 0, slots := 0, locals := 0 } : Room) (kPre D cy [.ref aW] (wX6_nightNow cy aW qW aH vW) sz) (kQi D cy zr A (wX6_nightNow cy aW qW aH vW)) 0 0 A := by
  refine Met.ofW (cc := cX6_nightNow) (maxL := 1) (ret := (some .int)) (by decide) rfl ?_
  intro p e s m args below meth c s₁ B hml hv
  obtain ⟨rfl, hsz, hP, hK, hD0, hN⟩ := hv
  have hx := B.exec
  have hb := B.bytes
  have hr := B.returns
  have ht0 : ∀ w ∈ W0, w.before _ s = true := fun w h => atoms_spec (ws := wsX6_nightNow) B.pre w (List.mem_cons_of_mem _ h)
  have hown : s.vm.findClass RX6 = some m.cls := findClass_of_methodNamed B.named
  have hlocks := B.notSynchronized
  subst hsz
  have hD : va_D A (wX6_nightNow cy aW qW aH vW) := by rw [← hAe]; exact hD0.self
  have hA : ∀ q : Nat, s.heap.size ≤ q → A q := fun q h => by rw [← hAe]; exact Or.inr h
  have hS : va_S A s.heap s.heap [] := va_S.rf
  have hl := lv_entry ([.ref aW]) (n := 1) (Nat.le_of_ble_eq_true rfl)
  rw [lg_entry_eq]
  generalize (lg_sl ([.ref aW]) ++ List.replicate (1 - (lg_sl ([.ref aW])).length) Slot.unset).toArray = ls at hl ⊢
  have hl : lv_has ls 1 [(0, .ref aW)] := hl
  unfold fX6_nightNow at hok
  obtain ⟨H, hH⟩ : ∃ H, H = s.heap := ⟨_, rfl⟩
  obtain ⟨locs, hlc⟩ : ∃ x : List Loc, x = [] := ⟨_, rfl⟩
  have hP : va_P D vwCl (wX6_nightNow cy aW qW aH vW) H := by rw [hH]; exact hP
  have hS : va_S A s.heap H locs := by rw [hH, hlc]; exact hS
  rw [show W p l e _ s m _ below meth c s.heap [] = W p l e _ s m _ below meth c H locs from by rw [hH, hlc]]
  refine lv_aload_n hx hb dX6_nightNow_0 rfl (lv_at hl 0 rfl) ?_
  refine va_get (D := D) (ci := 5) (v := .int (vW 5)) (C := RX6) (T := TX6) (N := 13) hx hb ht0 niX6 hown hK hP 0 rfl rfl 5 (by decide) (ht0 _ wd120) (fun _ h9 => h9) rfl dX6_nightNow_1 ?_
  cases hok
  exact W.iret hx hb hr (fun t ht hW => ⟨⟨_, (), rfl, rfl, by rw [ht]; exact hP, va_K.moved hW.alike hK, hD⟩, hS.F ht⟩) hS.2.2 dX6_nightNow_4
def wsX7_paidBy : List Cond := .code yX7_paidBy cX7_paidBy 4 (some .int) :: W0
abbrev wX7_paidBy (cy : Nat → ClassId) (aU : Nat) (aW : Nat) (qU : Nat → Nat) (qW : Nat → Nat) (aH : Nat) (vU : Nat → Int32) (vU_nights : Nat → Int32) (vW : Nat → Int32) (vU_things : Nat → Int32) (vW_cells : Nat → Int32) (vU_cells : Nat → Int32) : va_W := [(aU, oX7 vU qU), (qU 3, rI cy 6 vU_nights), (aW, oX6 vW qW aH), (qU 1, rI cy 6 vU_things), (qW 0, rI cy 7 vW_cells), (qU 2, rI cy 6 vU_cells)]
set_option maxHeartbeats 4000000 in
set_option maxRecDepth 100000 in
theorem kX7_paidBy (l : Launch) (D : va_G) (cy : Nat → ClassId) (sz : Nat) (aU : Nat) (aW : Nat) (qU : Nat → Nat) (qW : Nat → Nat) (aH : Nat) (vU : Nat → Int32) (vU_nights : Nat → Int32) (vW : Nat → Int32) (vU_things : Nat → Int32) (vW_cells : Nat → Int32) (vU_cells : Nat → Int32) (zr : Int32) (hok : fX7_paidBy vU vU_nights vW vU_things vW_cells vU_cells = some zr) (A : Nat → Prop) (hAe : va_A (wX7_paidBy cy aU aW qU qW aH vU vU_nights vW vU_things vW_cells vU_cells) sz = A) : Met l yX7_paidBy wsX7_paidBy ({ frames := 1, cells := 0, slots := 0, locals := 21 } : Room) (kPre D cy [.ref aU, .ref aW] (wX7_paidBy cy aU aW qU qW aH vU vU_nights vW vU_things vW_cells vU_cells) sz) (kQi D cy zr A (wX7_paidBy cy aU aW qU qW aH vU vU_nights vW vU_things vW_cells vU_cells)) 0 0 A := by
  refine Met.ofW (cc := cX7_paidBy) (maxL := 4) (ret := (some .int)) (by decide) rfl ?_
  intro p e s m args below meth c s₁ B hml hv
  obtain ⟨rfl, hsz, hP, hK, hD0, hN⟩ := hv
  have hx := B.exec
  have hb := B.bytes
  have hr := B.returns
  have ht0 : ∀ w ∈ W0, w.before _ s = true := fun w h => atoms_spec (ws := wsX7_paidBy) B.pre w (List.mem_cons_of_mem _ h)
  have hown : s.vm.findClass RX7 = some m.cls := findClass_of_methodNamed B.named
  have hlocks := B.notSynchronized
  subst hsz
  have hD : va_D A (wX7_paidBy cy aU aW qU qW aH vU vU_nights vW vU_things vW_cells vU_cells) := by rw [← hAe]; exact hD0.self
  have hA : ∀ q : Nat, s.heap.size ≤ q → A q := fun q h => by rw [← hAe]; exact Or.inr h
  have hS : va_S A s.heap s.heap [] := va_S.rf
  have hl := lv_entry ([.ref aU, .ref aW]) (n := 4) (Nat.le_of_ble_eq_true rfl)
  rw [lg_entry_eq]
  generalize (lg_sl ([.ref aU, .ref aW]) ++ List.replicate (4 - (lg_sl ([.ref aU, .ref aW])).length) Slot.unset).toArray = ls at hl ⊢
  have hl : lv_has ls 4 [(0, .ref aU), (1, .ref aW)] := hl
  generalize hQe : MQ below (kQi D cy zr A (wX7_paidBy cy aU aW qU qW aH vU vU_nights vW vU_things vW_cells vU_cells)) ([.ref aU, .ref aW] : List Value).toArray s 0 0 A = Q
  have J62 : ∀ (y2_62 : Int32), ∀ (H : Heap) (locs : List Loc) (ls : Array Slot), va_P D vwCl (wX7_paidBy cy aU aW qU qW aH vU vU_nights vW vU_things vW_cells vU_cells) H → va_D A (wX7_paidBy cy aU aW qU qW aH vU vU_nights vW vU_things vW_cells vU_cells) → va_S A s.heap H locs → lv_has ls 4 [(2, .int y2_62)] → fX7_paidBy_J62 y2_62 = some zr → W p l e ({ frames := 1, cells := 0, slots := 0, locals := 21 } : Room) s m ([.ref aU, .ref aW] : List Value).toArray below meth c H locs 0 0 Q (F0 m 62 ls []) := by
    intro y2_62 H locs ls hP hD hS hl hok
    unfold fX7_paidBy_J62 at hok
    refine lv_iload_n hx hb dX7_paidBy_62 rfl (lv_at hl 0 rfl) ?_
    cases hok
    subst hQe; exact W.iret hx hb hr (fun t ht hW => ⟨⟨_, (), rfl, rfl, by rw [ht]; exact hP, va_K.moved hW.alike hK, hD⟩, hS.F ht⟩) hS.2.2 dX7_paidBy_63
  have L4 : ∀ (fuel : Nat) (y2_4 : Int32) (y3_4 : Int32), ∀ (H : Heap) (locs : List Loc) (ls : Array Slot), va_P D vwCl (wX7_paidBy cy aU aW qU qW aH vU vU_nights vW vU_things vW_cells vU_cells) H → va_D A (wX7_paidBy cy aU aW qU qW aH vU vU_nights vW vU_things vW_cells vU_cells) → va_S A s.heap H locs → lv_has ls 4 [(0, .ref aU), (1, .ref aW), (2, .int y2_4), (3, .int y3_4)] → lp (fX7_paidBy_B4 vU vU_nights vW vU_things vW_cells vU_cells) fuel (y2_4, y3_4) = some zr → W p l e ({ frames := 1, cells := 0, slots := 0, locals := 21 } : Room) s m ([.ref aU, .ref aW] : List Value).toArray below meth c H locs 0 0 Q (F0 m 4 ls []) := by
    intro fuel
    induction fuel with
    | zero => intro y2_4 y3_4 H locs ls hP hD hS hl hok; exact (lp_0 hok).elim
    | succ fuel ih4 =>
      intro y2_4 y3_4 H locs ls hP hD hS hl hok
      obtain ⟨y4, hok, hL4, hR4⟩ := lp_step hok
      have J56 : ∀ (y2_56 : Int32), ∀ (H : Heap) (locs : List Loc) (ls : Array Slot), va_P D vwCl (wX7_paidBy cy aU aW qU qW aH vU vU_nights vW vU_things vW_cells vU_cells) H → va_D A (wX7_paidBy cy aU aW qU qW aH vU vU_nights vW vU_things vW_cells vU_cells) → va_S A s.heap H locs → lv_has ls 4 [(0, .ref aU), (1, .ref aW), (2, .int y2_56), (3, .int y3_4)] → fX7_paidBy_J56 y3_4 y2_56 = some y4 → W p l e ({ frames := 1, cells := 0, slots := 0, locals := 21 } : Room) s m ([.ref aU, .ref aW] : List Value).toArray below meth c H locs 0 0 Q (F0 m 56 ls []) := by
        intro y2_56 H locs ls hP hD hS hl hok
        unfold fX7_paidBy_J56 at hok
        refine lv_iinc (v := (y3_4 + 1)) (lv' := [(3, .int (y3_4 + 1)), (0, .ref aU), (1, .ref aW), (2, .int y2_56)]) hx hb dX7_paidBy_56 hl (k := 3) rfl (by first | rfl | decide) (by decide) rfl (fun ls hl => ?_)
        refine lv_goto (tgt := 4) hx hb dX7_paidBy_59 (by decide) ?_
        exact ih4 y2_56 (y3_4 + 1) H locs ls hP hD hS (lv_sub hl [1, 2, 3, 0] rfl) (hR4 _ (Option.some.inj hok).symm)
      unfold fX7_paidBy_B4 at hok
      try dsimp only at hok
      refine lv_iload_n hx hb dX7_paidBy_4 rfl (lv_at hl 3 rfl) ?_
      refine lv_aload_n hx hb dX7_paidBy_5 rfl (lv_at hl 0 rfl) ?_
      refine va_get (D := D) (ci := 6) (v := .int (vU 0)) (C := RX7) (T := TX7) (N := 5) hx hb ht0 niX7 hown hK hP 0 rfl rfl 0 (by decide) (ht0 _ wd202) (fun _ h9 => h9) rfl dX7_paidBy_6 ?_
      refine lv_icmp_ge (tgt := 62) hx hb dX7_paidBy_9 (by decide) (fun c9 => ?_) (fun c9 => ?_)
      · have hok := k_pos c9 hok
        obtain ⟨e4, hok, he4⟩ := ex_some hok
        have hok := hok.trans (congrArg some (hL4 _ he4))
        exact J62 y2_4 H locs ls hP hD hS (lv_sub hl [2] rfl) hok
      · have hok := k_neg c9 hok
        refine lv_iload_n hx hb dX7_paidBy_12 rfl (lv_at hl 3 rfl) ?_
        refine lv_bipush (v := 6) hx hb dX7_paidBy_13 (by decide) ?_
        refine lv_icmp_ge (tgt := 62) hx hb dX7_paidBy_15 (by decide) (fun c15 => ?_) (fun c15 => ?_)
        · have hok := k_pos c15 hok
          obtain ⟨e4, hok, he4⟩ := ex_some hok
          have hok := hok.trans (congrArg some (hL4 _ he4))
          exact J62 y2_4 H locs ls hP hD hS (lv_sub hl [2] rfl) hok
        · have hok := k_neg c15 hok
          refine lv_aload_n hx hb dX7_paidBy_18 rfl (lv_at hl 0 rfl) ?_
          refine va_get (D := D) (ci := 6) (v := .ref (qU 3)) (C := RX7) (T := TX7) (N := 5) hx hb ht0 niX7 hown hK hP 0 rfl rfl 3 (by decide) (ht0 _ wd203) (fun _ h9 => h9) rfl dX7_paidBy_19 ?_
          refine lv_iload_n hx hb dX7_paidBy_22 rfl (lv_at hl 3 rfl) ?_
          obtain ⟨g23, hok⟩ := gd_some hok
          refine va_iald hx hb hK hP 1 0 rfl rfl (okI_in g23) dX7_paidBy_23 ?_
          refine lv_aload_n hx hb dX7_paidBy_24 rfl (lv_at hl 1 rfl) ?_
          obtain ⟨r25, hc25, hok⟩ := k_bind hok
          refine kCi (wc := (wX6_nightNow cy aW qW aH vW)) (wc2 := (wX6_nightNow cy aW qW aH vW)) (wr := [(aU, oX7 vU qU), (qU 3, rI cy 6 vU_nights), (qU 1, rI cy 6 vU_things), (qW 0, rI cy 7 vW_cells), (qU 2, rI cy 6 vU_cells)]) (ws2 := (wX7_paidBy cy aU aW qU qW aH vU vU_nights vW vU_things vW_cells vU_cells)) (kRunV (As := []) (rest := [.int (vU_nights y3_4.toNatClampNeg)]) ⟨hx, hb, hml, hown, ht0⟩ (kX6_nightNow l D cy _ aW qW aH vW r25 hc25 _ rfl) (cwV 0 ht0 (gV wd207 wd208 wd209 wd114 wd210) rfl rfl rfl (by decide +kernel) ⟨Nat.le_of_ble_eq_true rfl, Nat.le_of_ble_eq_true rfl⟩) hK hN hP hD [2] rfl (by decide) 2 5 rfl rfl rfl hl.1 rfl (Nat.le_of_ble_eq_true rfl) dX7_paidBy_25 ⟨Nat.zero_le _, Nat.zero_le _⟩) hP hD hS hA [2] [0, 1, 3, 4, 5] rfl rfl (by decide) (by decide) [0, 1, 5, 2, 3, 4] (by decide) rfl rfl (fun H locs hP hD hS => ?_)
          refine lv_icmp_ne (tgt := 56) hx hb dX7_paidBy_28 (by decide) (fun c28 => ?_) (fun c28 => ?_)
          · have hok := k_neg c28 hok
            exact J56 y2_4 H locs ls hP hD hS (lv_sub hl [0, 1, 2, 3] rfl) hok
          · have hok := k_pos c28 hok
            refine lv_aload_n hx hb dX7_paidBy_31 rfl (lv_at hl 1 rfl) ?_
            refine lv_aload_n hx hb dX7_paidBy_32 rfl (lv_at hl 0 rfl) ?_
            refine va_get (D := D) (ci := 6) (v := .ref (qU 1)) (C := RX7) (T := TX7) (N := 5) hx hb ht0 niX7 hown hK hP 0 rfl rfl 1 (by decide) (ht0 _ wd199) (fun _ h9 => h9) rfl dX7_paidBy_33 ?_
            refine lv_iload_n hx hb dX7_paidBy_36 rfl (lv_at hl 3 rfl) ?_
            obtain ⟨g37, hok⟩ := gd_some hok
            refine va_iald hx hb hK hP 3 0 rfl rfl (okI_in g37) dX7_paidBy_37 ?_
            obtain ⟨r38, hc38, hok⟩ := k_bind hok
            refine kCi (wc := (wX6_cellOf cy aW qW aH vW vW_cells)) (wc2 := (wX6_cellOf cy aW qW aH vW vW_cells)) (wr := [(aU, oX7 vU qU), (qU 3, rI cy 6 vU_nights), (qU 1, rI cy 6 vU_things), (qU 2, rI cy 6 vU_cells)]) (ws2 := (wX7_paidBy cy aU aW qU qW aH vU vU_nights vW vU_things vW_cells vU_cells)) (kRunV (As := [.int (vU_things y3_4.toNatClampNeg)]) (rest := []) ⟨hx, hb, hml, hown, ht0⟩ (kX6_cellOf l D cy _ aW qW aH vW vW_cells (vU_things y3_4.toNatClampNeg) r38 hc38 _ rfl) (cwV 1 ht0 (gV wd211 wd163 wd164 wd114 wd165) rfl rfl rfl (by decide +kernel) ⟨Nat.le_of_ble_eq_true rfl, Nat.le_of_ble_eq_true rfl⟩) hK hN hP hD [2, 4] rfl (by decide) 2 5 rfl rfl rfl hl.1 rfl (Nat.le_of_ble_eq_true rfl) dX7_paidBy_38 ⟨Nat.zero_le _, Nat.zero_le _⟩) hP hD hS hA [2, 4] [0, 1, 3, 5] rfl rfl (by decide) (by decide) [0, 1, 4, 2, 5, 3] (by decide) rfl rfl (fun H locs hP hD hS => ?_)
            refine lv_aload_n hx hb dX7_paidBy_41 rfl (lv_at hl 0 rfl) ?_
            refine va_get (D := D) (ci := 6) (v := .ref (qU 2)) (C := RX7) (T := TX7) (N := 5) hx hb ht0 niX7 hown hK hP 0 rfl rfl 2 (by decide) (ht0 _ wd201) (fun _ h9 => h9) rfl dX7_paidBy_42 ?_
            refine lv_iload_n hx hb dX7_paidBy_45 rfl (lv_at hl 3 rfl) ?_
            obtain ⟨g46, hok⟩ := gd_some hok
            refine va_iald hx hb hK hP 5 0 rfl rfl (okI_in g46) dX7_paidBy_46 ?_
            refine lv_icmp_ne (tgt := 56) hx hb dX7_paidBy_47 (by decide) (fun c47 => ?_) (fun c47 => ?_)
            · have hok := k_neg c47 hok
              exact J56 y2_4 H locs ls hP hD hS (lv_sub hl [0, 1, 2, 3] rfl) hok
            · have hok := k_pos c47 hok
              refine lv_iload_n hx hb dX7_paidBy_50 rfl (lv_at hl 2 rfl) ?_
              refine lv_iconst (v := 1) hx hb dX7_paidBy_51 (by decide) ?_
              refine lv_iload_n hx hb dX7_paidBy_52 rfl (lv_at hl 3 rfl) ?_
              refine lv_ishl hx hb dX7_paidBy_53 ?_
              refine lv_ior hx hb dX7_paidBy_54 ?_
              refine lv_istore_n (lv' := [(2, .int (y2_4 ||| (isl (1 : Int32) y3_4))), (0, .ref aU), (1, .ref aW), (3, .int y3_4)]) hx hb dX7_paidBy_55 rfl hl (by decide) rfl (fun ls hl => ?_)
              exact J56 (y2_4 ||| (isl (1 : Int32) y3_4)) H locs ls hP hD hS (lv_sub hl [1, 2, 0, 3] rfl) hok
  unfold fX7_paidBy at hok
  obtain ⟨H, hH⟩ : ∃ H, H = s.heap := ⟨_, rfl⟩
  obtain ⟨locs, hlc⟩ : ∃ x : List Loc, x = [] := ⟨_, rfl⟩
  have hP : va_P D vwCl (wX7_paidBy cy aU aW qU qW aH vU vU_nights vW vU_things vW_cells vU_cells) H := by rw [hH]; exact hP
  have hS : va_S A s.heap H locs := by rw [hH, hlc]; exact hS
  rw [show W p l e _ s m _ below meth c s.heap [] = W p l e _ s m _ below meth c H locs from by rw [hH, hlc]]
  refine lv_iconst (v := 0) hx hb dX7_paidBy_0 (by decide) ?_
  refine lv_istore_n (lv' := [(2, .int 0), (0, .ref aU), (1, .ref aW)]) hx hb dX7_paidBy_1 rfl hl (by decide) rfl (fun ls hl => ?_)
  refine lv_iconst (v := 0) hx hb dX7_paidBy_2 (by decide) ?_
  refine lv_istore_n (lv' := [(3, .int 0), (2, .int 0), (0, .ref aU), (1, .ref aW)]) hx hb dX7_paidBy_3 rfl hl (by decide) rfl (fun ls hl => ?_)
  exact L4 5000 (0 : Int32) (0 : Int32) H locs ls hP hD hS (lv_sub hl [2, 3, 1, 0] rfl) hok
def wsX3_paidOf : List Cond := .code yX3_paidOf cX3_paidOf 8 (some .int) :: W0
abbrev wX3_paidOf (cy : Nat → ClassId) (aG : Nat) (aH : Nat) (aD : Nat) (qH : Nat → Nat) (qU : Nat → Nat) (qG : Nat → Nat) (qW : Nat → Nat) (aH0 : Nat) (qD : Nat → Nat) (vH : Nat → Int32) (vU : Nat → Int32) (vU_nights : Nat → Int32) (vG : Nat → Int32) (vW : Nat → Int32) (vD : Nat → Int32) (vD_now : Nat → Int32) (vW_who : Nat → Int32) (vH_kinds : Nat → Int32) (vW_cells : Nat → Int32) (vH_sorts : Nat → Int32) (vH_next : Nat → Int32) (vW_inFront : Nat → Int32) (vH_sizes : Nat → Int32) (vH_width : Nat → Int32) (vU_things : Nat → Int32) (vU_cells : Nat → Int32) : va_W := [(aH, oX4 vH qH), (qH 7, oX7 vU qU), (qU 3, rI cy 6 vU_nights), (aG, oX3 vG qG), (qG 0, oX6 vW qW aH0), (aD, oX1 vD qD), (qD 0, rI cy 9 vD_now), (qW 1, rI cy 36 vW_who), (qH 14, rI cy 7 vH_kinds), (qW 0, rI cy 7 vW_cells), (qH 8, rI cy 4 vH_sorts), (qH 10, rI cy 36 vH_next), (qW 2, rI cy 7 vW_inFront), (qH 15, rI cy 7 vH_sizes), (qH 11, rI cy 36 vH_width), (qU 1, rI cy 6 vU_things), (qU 2, rI cy 6 vU_cells)]
set_option maxHeartbeats 4000000 in
set_option maxRecDepth 100000 in
theorem kX3_paidOf (l : Launch) (D : va_G) (cy : Nat → ClassId) (sz : Nat) (aG : Nat) (aH : Nat) (aD : Nat) (qH : Nat → Nat) (qU : Nat → Nat) (qG : Nat → Nat) (qW : Nat → Nat) (aH0 : Nat) (qD : Nat → Nat) (vH : Nat → Int32) (vU : Nat → Int32) (vU_nights : Nat → Int32) (vG : Nat → Int32) (vW : Nat → Int32) (vD : Nat → Int32) (vD_now : Nat → Int32) (vW_who : Nat → Int32) (vH_kinds : Nat → Int32) (vW_cells : Nat → Int32) (vH_sorts : Nat → Int32) (vH_next : Nat → Int32) (vW_inFront : Nat → Int32) (vH_sizes : Nat → Int32) (vH_width : Nat → Int32) (vU_things : Nat → Int32) (vU_cells : Nat → Int32) (x1 : Int32) (x4 : Int32) (zr : Int32) (z_vW : Nat → Int32) (z_vW_who : Nat → Int32) (z_vW_cells : Nat → Int32) (z_vW_inFront : Nat → Int32) (hok : fX3_paidOf vH vU vU_nights vG vW vD vD_now vW_who vH_kinds vW_cells vH_sorts vH_next vW_inFront vH_sizes vH_width vU_things vU_cells x1 x4 = some (zr, z_vW, z_vW_who, z_vW_cells, z_vW_inFront)) (A : Nat → Prop) (hAe : va_A (wX3_paidOf cy aG aH aD qH qU qG qW aH0 qD vH vU vU_nights vG vW vD vD_now vW_who vH_kinds vW_cells vH_sorts vH_next vW_inFront vH_sizes vH_width vU_things vU_cells) sz = A) : Met l yX3_paidOf wsX3_paidOf ({ frames := 3, cells := 0, slots := 0, locals := 73 } : Room) (kPre D cy [.ref aG, .int x1, .ref aH, .ref aD, .int x4] (wX3_paidOf cy aG aH aD qH qU qG qW aH0 qD vH vU vU_nights vG vW vD vD_now vW_who vH_kinds vW_cells vH_sorts vH_next vW_inFront vH_sizes vH_width vU_things vU_cells) sz) (kQi D cy zr A (wX3_paidOf cy aG aH aD qH qU qG qW aH qD vH vU vU_nights vG z_vW vD vD_now z_vW_who vH_kinds z_vW_cells vH_sorts vH_next z_vW_inFront vH_sizes vH_width vU_things vU_cells)) 0 0 A := by
  refine Met.ofW (cc := cX3_paidOf) (maxL := 8) (ret := (some .int)) (by decide) rfl ?_
  intro p e s m args below meth c s₁ B hml hv
  obtain ⟨rfl, hsz, hP, hK, hD0, hN⟩ := hv
  have hx := B.exec
  have hb := B.bytes
  have hr := B.returns
  have ht0 : ∀ w ∈ W0, w.before _ s = true := fun w h => atoms_spec (ws := wsX3_paidOf) B.pre w (List.mem_cons_of_mem _ h)
  have hown : s.vm.findClass RX3 = some m.cls := findClass_of_methodNamed B.named
  have hlocks := B.notSynchronized
  subst hsz
  have hD : va_D A (wX3_paidOf cy aG aH aD qH qU qG qW aH0 qD vH vU vU_nights vG vW vD vD_now vW_who vH_kinds vW_cells vH_sorts vH_next vW_inFront vH_sizes vH_width vU_things vU_cells) := by rw [← hAe]; exact hD0.self
  have hA : ∀ q : Nat, s.heap.size ≤ q → A q := fun q h => by rw [← hAe]; exact Or.inr h
  have hS : va_S A s.heap s.heap [] := va_S.rf
  have hl := lv_entry ([.ref aG, .int x1, .ref aH, .ref aD, .int x4]) (n := 8) (Nat.le_of_ble_eq_true rfl)
  rw [lg_entry_eq]
  generalize (lg_sl ([.ref aG, .int x1, .ref aH, .ref aD, .int x4]) ++ List.replicate (8 - (lg_sl ([.ref aG, .int x1, .ref aH, .ref aD, .int x4])).length) Slot.unset).toArray = ls at hl ⊢
  have hl : lv_has ls 8 [(0, .ref aG), (1, .int x1), (2, .ref aH), (3, .ref aD), (4, .int x4)] := hl
  generalize hQe : MQ below (kQi D cy zr A (wX3_paidOf cy aG aH aD qH qU qG qW aH qD vH vU vU_nights vG z_vW vD vD_now z_vW_who vH_kinds z_vW_cells vH_sorts vH_next z_vW_inFront vH_sizes vH_width vU_things vU_cells)) ([.ref aG, .int x1, .ref aH, .ref aD, .int x4] : List Value).toArray s 0 0 A = Q
  have J76 : ∀ (y6_76 : Int32) (vW_cells_76 : Nat → Int32) (vW_inFront_76 : Nat → Int32) (vW_who_76 : Nat → Int32) (vW_76 : Nat → Int32), ∀ (H : Heap) (locs : List Loc) (ls : Array Slot), va_P D vwCl (wX3_paidOf cy aG aH aD qH qU qG qW aH qD vH vU vU_nights vG vW_76 vD vD_now vW_who_76 vH_kinds vW_cells_76 vH_sorts vH_next vW_inFront_76 vH_sizes vH_width vU_things vU_cells) H → va_D A (wX3_paidOf cy aG aH aD qH qU qG qW aH qD vH vU vU_nights vG vW_76 vD vD_now vW_who_76 vH_kinds vW_cells_76 vH_sorts vH_next vW_inFront_76 vH_sizes vH_width vU_things vU_cells) → va_S A s.heap H locs → lv_has ls 8 [(1, .int x1), (6, .int y6_76)] → fX3_paidOf_J76 x1 y6_76 vW_cells_76 vW_inFront_76 vW_who_76 vW_76 = some (zr, z_vW, z_vW_who, z_vW_cells, z_vW_inFront) → W p l e ({ frames := 3, cells := 0, slots := 0, locals := 73 } : Room) s m ([.ref aG, .int x1, .ref aH, .ref aD, .int x4] : List Value).toArray below meth c H locs 0 0 Q (F0 m 76 ls []) := by
    intro y6_76 vW_cells_76 vW_inFront_76 vW_who_76 vW_76 H locs ls hP hD hS hl hok
    unfold fX3_paidOf_J76 at hok
    refine lv_iload hx hb dX3_paidOf_76 (lv_at hl 1 rfl) ?_
    refine lv_iload_n hx hb dX3_paidOf_78 rfl (lv_at hl 0 rfl) ?_
    refine lv_iand hx hb dX3_paidOf_79 ?_
    cases hok
    subst hQe; exact W.iret hx hb hr (fun t ht hW => ⟨⟨_, (), rfl, rfl, by rw [ht]; exact hP, va_K.moved hW.alike hK, hD⟩, hS.F ht⟩) hS.2.2 dX3_paidOf_80
  have L27 : ∀ (fuel : Nat) (y5_27 : Int32) (y6_27 : Int32) (y7_27 : Int32) (vW_cells_27 : Nat → Int32) (vW_inFront_27 : Nat → Int32) (vW_who_27 : Nat → Int32) (vW_27 : Nat → Int32), ∀ (H : Heap) (locs : List Loc) (ls : Array Slot), va_P D vwCl (wX3_paidOf cy aG aH aD qH qU qG qW aH qD vH vU vU_nights vG vW_27 vD vD_now vW_who_27 vH_kinds vW_cells_27 vH_sorts vH_next vW_inFront_27 vH_sizes vH_width vU_things vU_cells) H → va_D A (wX3_paidOf cy aG aH aD qH qU qG qW aH qD vH vU vU_nights vG vW_27 vD vD_now vW_who_27 vH_kinds vW_cells_27 vH_sorts vH_next vW_inFront_27 vH_sizes vH_width vU_things vU_cells) → va_S A s.heap H locs → lv_has ls 8 [(0, .ref aG), (1, .int x1), (2, .ref aH), (5, .int y5_27), (6, .int y6_27), (7, .int y7_27)] → lp (fX3_paidOf_B27 vH vU vU_nights vH_kinds vH_next vH_sizes vH_width vU_things vU_cells x1) fuel (y5_27, y6_27, y7_27, vW_cells_27, vW_inFront_27, vW_who_27, vW_27) = some (zr, z_vW, z_vW_who, z_vW_cells, z_vW_inFront) → W p l e ({ frames := 3, cells := 0, slots := 0, locals := 73 } : Room) s m ([.ref aG, .int x1, .ref aH, .ref aD, .int x4] : List Value).toArray below meth c H locs 0 0 Q (F0 m 27 ls []) := by
    intro fuel
    induction fuel with
    | zero => intro y5_27 y6_27 y7_27 vW_cells_27 vW_inFront_27 vW_who_27 vW_27 H locs ls hP hD hS hl hok; exact (lp_0 hok).elim
    | succ fuel ih27 =>
      intro y5_27 y6_27 y7_27 vW_cells_27 vW_inFront_27 vW_who_27 vW_27 H locs ls hP hD hS hl hok
      obtain ⟨y27, hok, hL27, hR27⟩ := lp_step hok
      unfold fX3_paidOf_B27 at hok
      try dsimp only at hok
      refine lv_iload hx hb dX3_paidOf_27 (lv_at hl 5 rfl) ?_
      refine lv_bipush (v := 60) hx hb dX3_paidOf_29 (by decide) ?_
      refine lv_icmp_ge (tgt := 76) hx hb dX3_paidOf_31 (by decide) (fun c31 => ?_) (fun c31 => ?_)
      · have hok := k_pos c31 hok
        obtain ⟨e27, hok, he27⟩ := ex_some hok
        have hok := hok.trans (congrArg some (hL27 _ he27))
        exact J76 y6_27 vW_cells_27 vW_inFront_27 vW_who_27 vW_27 H locs ls hP hD hS (lv_sub hl [1, 4] rfl) hok
      · have hok := k_neg c31 hok
        refine lv_aload_n hx hb dX3_paidOf_34 rfl (lv_at hl 0 rfl) ?_
        refine va_get (D := D) (ci := 2) (v := .ref (qG 0)) (C := RX3) (T := TX3) (N := 1) hx hb ht0 niX3 hown hK hP 3 rfl rfl 0 (by decide) (ht0 _ wd170) (fun _ h9 => h9) rfl dX3_paidOf_35 ?_
        obtain ⟨r38, hc38, hok⟩ := k_bind hok
        refine kCi (wc := (wX6_nightNow cy (qG 0) qW aH vW_27)) (wc2 := (wX6_nightNow cy (qG 0) qW aH vW_27)) (wr := [(aH, oX4 vH qH), (qH 7, oX7 vU qU), (qU 3, rI cy 6 vU_nights), (aG, oX3 vG qG), (aD, oX1 vD qD), (qD 0, rI cy 9 vD_now), (qW 1, rI cy 36 vW_who_27), (qH 14, rI cy 7 vH_kinds), (qW 0, rI cy 7 vW_cells_27), (qH 8, rI cy 4 vH_sorts), (qH 10, rI cy 36 vH_next), (qW 2, rI cy 7 vW_inFront_27), (qH 15, rI cy 7 vH_sizes), (qH 11, rI cy 36 vH_width), (qU 1, rI cy 6 vU_things), (qU 2, rI cy 6 vU_cells)]) (ws2 := (wX3_paidOf cy aG aH aD qH qU qG qW aH qD vH vU vU_nights vG vW_27 vD vD_now vW_who_27 vH_kinds vW_cells_27 vH_sorts vH_next vW_inFront_27 vH_sizes vH_width vU_things vU_cells)) (kRunV (As := []) (rest := []) ⟨hx, hb, hml, hown, ht0⟩ (kX6_nightNow l D cy _ (qG 0) qW aH vW_27 r38 hc38 _ rfl) (cwV 0 ht0 (gV wd212 wd208 wd209 wd114 wd210) rfl rfl rfl (by decide +kernel) ⟨Nat.le_of_ble_eq_true rfl, Nat.le_of_ble_eq_true rfl⟩) hK hN hP hD [4] rfl (by decide) 4 5 rfl rfl rfl hl.1 rfl (Nat.le_of_ble_eq_true rfl) dX3_paidOf_38 ⟨Nat.zero_le _, Nat.zero_le _⟩) hP hD hS hA [4] [0, 1, 2, 3, 5, 6, 7, 8, 9, 10, 11, 12, 13, 14, 15, 16] rfl rfl (by decide) (by decide) [0, 1, 2, 3, 16, 4, 5, 6, 7, 8, 9, 10, 11, 12, 13, 14, 15] (by decide) rfl rfl (fun H locs hP hD hS => ?_)
        refine lv_iload hx hb dX3_paidOf_41 (lv_at hl 3 rfl) ?_
        refine lv_icmp_ge (tgt := 76) hx hb dX3_paidOf_43 (by decide) (fun c43 => ?_) (fun c43 => ?_)
        · have hok := k_pos c43 hok
          obtain ⟨e27, hok, he27⟩ := ex_some hok
          have hok := hok.trans (congrArg some (hL27 _ he27))
          exact J76 y6_27 vW_cells_27 vW_inFront_27 vW_who_27 vW_27 H locs ls hP hD hS (lv_sub hl [1, 4] rfl) hok
        · have hok := k_neg c43 hok
          refine lv_aload_n hx hb dX3_paidOf_46 rfl (lv_at hl 0 rfl) ?_
          refine va_get (D := D) (ci := 2) (v := .ref (qG 0)) (C := RX3) (T := TX3) (N := 1) hx hb ht0 niX3 hown hK hP 3 rfl rfl 0 (by decide) (ht0 _ wd170) (fun _ h9 => h9) rfl dX3_paidOf_47 ?_
          refine lv_iconst (v := 0) hx hb dX3_paidOf_50 (by decide) ?_
          obtain ⟨⟨vW_51, vW_cells_51, vW_who_51, vW_inFront_51⟩, hc51, hok⟩ := k_bind hok
          try dsimp only at hok
          refine kCv (wc := (wX6_pass cy (qG 0) qW aH qH vW_27 vH vW_cells_27 vH_next vW_who_27 vW_inFront_27 vH_sizes vH_width vH_kinds)) (wc2 := (wX6_pass cy (qG 0) qW aH qH vW_51 vH vW_cells_51 vH_next vW_who_51 vW_inFront_51 vH_sizes vH_width vH_kinds)) (wr := [(qH 7, oX7 vU qU), (qU 3, rI cy 6 vU_nights), (aG, oX3 vG qG), (aD, oX1 vD qD), (qD 0, rI cy 9 vD_now), (qH 8, rI cy 4 vH_sorts), (qU 1, rI cy 6 vU_things), (qU 2, rI cy 6 vU_cells)]) (ws2 := (wX3_paidOf cy aG aH aD qH qU qG qW aH qD vH vU vU_nights vG vW_51 vD vD_now vW_who_51 vH_kinds vW_cells_51 vH_sorts vH_next vW_inFront_51 vH_sizes vH_width vU_things vU_cells)) (kRunV (As := [.int 0]) (rest := []) ⟨hx, hb, hml, hown, ht0⟩ (kX6_pass l D cy _ (qG 0) qW aH qH vW_27 vH vW_cells_27 vH_next vW_who_27 vW_inFront_27 vH_sizes vH_width vH_kinds (0 : Int32) vW_51 vW_cells_51 vW_who_51 vW_inFront_51 hc51 _ rfl) (cwV 1 ht0 (gV wd213 wd155 wd156 wd114 wd157) rfl rfl rfl (by decide +kernel) ⟨Nat.le_of_ble_eq_true rfl, Nat.le_of_ble_eq_true rfl⟩) hK hN hP hD [4, 0, 9, 11, 7, 12, 13, 14, 8] rfl (by decide) 4 5 rfl rfl rfl hl.1 rfl (Nat.le_of_ble_eq_true rfl) dX3_paidOf_51 ⟨Nat.zero_le _, Nat.zero_le _⟩) hP hD hS hA [4, 0, 9, 11, 7, 12, 13, 14, 8] [1, 2, 3, 5, 6, 10, 15, 16] rfl rfl (by decide) (by decide) [9, 0, 1, 2, 8, 3, 4, 12, 16, 10, 5, 11, 13, 14, 15, 6, 7] (by decide) rfl rfl (fun H locs hP hD hS => ?_)
          refine lv_iload hx hb dX3_paidOf_54 (lv_at hl 4 rfl) ?_
          refine lv_aload_n hx hb dX3_paidOf_56 rfl (lv_at hl 2 rfl) ?_
          refine va_get (D := D) (ci := 3) (v := .ref (qH 7)) (C := RX4) (T := TX4) (N := 20) hx hb ht0 niX4 hown hK hP 0 rfl rfl 7 (by decide) (ht0 _ wd214) (fun _ h9 => h9) rfl dX3_paidOf_57 ?_
          refine lv_aload_n hx hb dX3_paidOf_60 rfl (lv_at hl 0 rfl) ?_
          refine va_get (D := D) (ci := 2) (v := .ref (qG 0)) (C := RX3) (T := TX3) (N := 1) hx hb ht0 niX3 hown hK hP 3 rfl rfl 0 (by decide) (ht0 _ wd170) (fun _ h9 => h9) rfl dX3_paidOf_61 ?_
          obtain ⟨r64, hc64, hok⟩ := k_bind hok
          refine kCi (wc := (wX7_paidBy cy (qH 7) (qG 0) qU qW aH vU vU_nights vW_51 vU_things vW_cells_51 vU_cells)) (wc2 := (wX7_paidBy cy (qH 7) (qG 0) qU qW aH vU vU_nights vW_51 vU_things vW_cells_51 vU_cells)) (wr := [(aH, oX4 vH qH), (aG, oX3 vG qG), (aD, oX1 vD qD), (qD 0, rI cy 9 vD_now), (qW 1, rI cy 36 vW_who_51), (qH 14, rI cy 7 vH_kinds), (qH 8, rI cy 4 vH_sorts), (qH 10, rI cy 36 vH_next), (qW 2, rI cy 7 vW_inFront_51), (qH 15, rI cy 7 vH_sizes), (qH 11, rI cy 36 vH_width)]) (ws2 := (wX3_paidOf cy aG aH aD qH qU qG qW aH qD vH vU vU_nights vG vW_51 vD vD_now vW_who_51 vH_kinds vW_cells_51 vH_sorts vH_next vW_inFront_51 vH_sizes vH_width vU_things vU_cells)) (kRunV (As := [.ref (qG 0)]) (rest := [.int y6_27]) ⟨hx, hb, hml, hown, ht0⟩ (kX7_paidBy l D cy _ (qH 7) (qG 0) qU qW aH vU vU_nights vW_51 vU_things vW_cells_51 vU_cells r64 hc64 _ rfl) (cwV 1 ht0 (gV wd215 wd216 wd217 wd218 wd219) rfl rfl rfl (by decide +kernel) ⟨Nat.le_of_ble_eq_true rfl, Nat.le_of_ble_eq_true rfl⟩) hK hN hP hD [1, 2, 4, 15, 9, 16] rfl (by decide) 1 6 rfl rfl rfl hl.1 rfl (Nat.le_of_ble_eq_true rfl) dX3_paidOf_64 ⟨Nat.zero_le _, Nat.zero_le _⟩) hP hD hS hA [1, 2, 4, 15, 9, 16] [0, 3, 5, 6, 7, 8, 10, 11, 12, 13, 14] rfl rfl (by decide) (by decide) [0, 11, 12, 1, 13, 2, 3, 4, 5, 15, 6, 7, 8, 9, 10, 14, 16] (by decide) rfl rfl (fun H locs hP hD hS => ?_)
          refine lv_ior hx hb dX3_paidOf_67 ?_
          refine lv_istore (lv' := [(6, .int (y6_27 ||| r64)), (0, .ref aG), (1, .int x1), (2, .ref aH), (5, .int y5_27), (7, .int y7_27)]) hx hb dX3_paidOf_68 hl (by decide) rfl (fun ls hl => ?_)
          refine lv_iinc (v := (y7_27 + 1)) (lv' := [(7, .int (y7_27 + 1)), (6, .int (y6_27 ||| r64)), (0, .ref aG), (1, .int x1), (2, .ref aH), (5, .int y5_27)]) hx hb dX3_paidOf_70 hl (k := 5) rfl (by first | rfl | decide) (by decide) rfl (fun ls hl => ?_)
          refine lv_goto (tgt := 27) hx hb dX3_paidOf_73 (by decide) ?_
          exact ih27 y5_27 (y6_27 ||| r64) (y7_27 + 1) vW_cells_51 vW_inFront_51 vW_who_51 vW_51 H locs ls hP hD hS (lv_sub hl [2, 3, 4, 5, 1, 0] rfl) (hR27 _ (Option.some.inj hok).symm)
  unfold fX3_paidOf at hok
  obtain ⟨H, hH⟩ : ∃ H, H = s.heap := ⟨_, rfl⟩
  obtain ⟨locs, hlc⟩ : ∃ x : List Loc, x = [] := ⟨_, rfl⟩
  have hP : va_P D vwCl (wX3_paidOf cy aG aH aD qH qU qG qW aH0 qD vH vU vU_nights vG vW vD vD_now vW_who vH_kinds vW_cells vH_sorts vH_next vW_inFront vH_sizes vH_width vU_things vU_cells) H := by rw [hH]; exact hP
  have hS : va_S A s.heap H locs := by rw [hH, hlc]; exact hS
  rw [show W p l e _ s m _ below meth c s.heap [] = W p l e _ s m _ below meth c H locs from by rw [hH, hlc]]
  refine lv_aload_n hx hb dX3_paidOf_0 rfl (lv_at hl 2 rfl) ?_
  refine va_get (D := D) (ci := 3) (v := .ref (qH 7)) (C := RX4) (T := TX4) (N := 20) hx hb ht0 niX4 hown hK hP 0 rfl rfl 7 (by decide) (ht0 _ wd214) (fun _ h9 => h9) rfl dX3_paidOf_1 ?_
  refine lv_iload_n hx hb dX3_paidOf_4 rfl (lv_at hl 1 rfl) ?_
  obtain ⟨r5, hc5, hok⟩ := k_bind hok
  refine kCi (wc := (wX7_lastNightOf cy (qH 7) qU vU vU_nights)) (wc2 := (wX7_lastNightOf cy (qH 7) qU vU vU_nights)) (wr := [(aH, oX4 vH qH), (aG, oX3 vG qG), (qG 0, oX6 vW qW aH0), (aD, oX1 vD qD), (qD 0, rI cy 9 vD_now), (qW 1, rI cy 36 vW_who), (qH 14, rI cy 7 vH_kinds), (qW 0, rI cy 7 vW_cells), (qH 8, rI cy 4 vH_sorts), (qH 10, rI cy 36 vH_next), (qW 2, rI cy 7 vW_inFront), (qH 15, rI cy 7 vH_sizes), (qH 11, rI cy 36 vH_width), (qU 1, rI cy 6 vU_things), (qU 2, rI cy 6 vU_cells)]) (ws2 := (wX3_paidOf cy aG aH aD qH qU qG qW aH0 qD vH vU vU_nights vG vW vD vD_now vW_who vH_kinds vW_cells vH_sorts vH_next vW_inFront vH_sizes vH_width vU_things vU_cells)) (kRunV (As := [.int x1]) (rest := []) ⟨hx, hb, hml, hown, ht0⟩ (kX7_lastNightOf l D cy _ (qH 7) qU vU vU_nights x1 r5 hc5 _ rfl) (cwV 1 ht0 (gV wd220 wd221 wd222 wd218 wd223) rfl rfl rfl (by decide +kernel) ⟨Nat.le_of_ble_eq_true rfl, Nat.le_of_ble_eq_true rfl⟩) hK hN hP hD [1, 2] rfl (by decide) 1 6 rfl rfl rfl hl.1 rfl (Nat.le_of_ble_eq_true rfl) dX3_paidOf_5 ⟨Nat.zero_le _, Nat.zero_le _⟩) hP hD hS hA [1, 2] [0, 3, 4, 5, 6, 7, 8, 9, 10, 11, 12, 13, 14, 15, 16] rfl rfl (by decide) (by decide) [0, 15, 16, 1, 2, 3, 4, 5, 6, 7, 8, 9, 10, 11, 12, 13, 14] (by decide) rfl rfl (fun H locs hP hD hS => ?_)
  refine lv_istore (lv' := [(5, .int r5), (0, .ref aG), (1, .int x1), (2, .ref aH), (3, .ref aD), (4, .int x4)]) hx hb dX3_paidOf_8 hl (by decide) rfl (fun ls hl => ?_)
  refine lv_iconst (v := 0) hx hb dX3_paidOf_10 (by decide) ?_
  refine lv_istore (lv' := [(6, .int 0), (5, .int r5), (0, .ref aG), (1, .int x1), (2, .ref aH), (3, .ref aD), (4, .int x4)]) hx hb dX3_paidOf_11 hl (by decide) rfl (fun ls hl => ?_)
  refine lv_aload_n hx hb dX3_paidOf_13 rfl (lv_at hl 2 rfl) ?_
  refine va_get (D := D) (ci := 2) (v := .ref (qG 0)) (C := RX3) (T := TX3) (N := 1) hx hb ht0 niX3 hown hK hP 3 rfl rfl 0 (by decide) (ht0 _ wd170) (fun _ h9 => h9) rfl dX3_paidOf_14 ?_
  refine lv_aload_n hx hb dX3_paidOf_17 rfl (lv_at hl 4 rfl) ?_
  refine lv_aload_n hx hb dX3_paidOf_18 rfl (lv_at hl 5 rfl) ?_
  refine lv_iload hx hb dX3_paidOf_19 (lv_at hl 6 rfl) ?_
  obtain ⟨⟨vW_21, vW_who_21, vW_cells_21⟩, hc21, hok⟩ := k_bind hok
  try dsimp only at hok
  refine kCv (wc := (wX6_start cy (qG 0) aH aD qW aH0 qD qH vW vD vD_now vW_who vH vH_kinds vW_cells vH_sorts)) (wc2 := (wX6_start cy (qG 0) aH aD qW aH qD qH vW_21 vD vD_now vW_who_21 vH vH_kinds vW_cells_21 vH_sorts)) (wr := [(qH 7, oX7 vU qU), (qU 3, rI cy 6 vU_nights), (aG, oX3 vG qG), (qH 10, rI cy 36 vH_next), (qW 2, rI cy 7 vW_inFront), (qH 15, rI cy 7 vH_sizes), (qH 11, rI cy 36 vH_width), (qU 1, rI cy 6 vU_things), (qU 2, rI cy 6 vU_cells)]) (ws2 := (wX3_paidOf cy aG aH aD qH qU qG qW aH qD vH vU vU_nights vG vW_21 vD vD_now vW_who_21 vH_kinds vW_cells_21 vH_sorts vH_next vW_inFront vH_sizes vH_width vU_things vU_cells)) (kRunV (As := [.ref aH, .ref aD, .int x4]) (rest := []) ⟨hx, hb, hml, hown, ht0⟩ (kX6_start l D cy _ (qG 0) aH aD qW aH0 qD qH vW vD vD_now vW_who vH vH_kinds vW_cells vH_sorts x4 vW_21 vW_who_21 vW_cells_21 hc21 _ rfl) (cwV 3 ht0 (gV wd180 wd181 wd182 wd114 wd183) rfl rfl rfl (by decide +kernel) ⟨Nat.le_of_ble_eq_true rfl, Nat.le_of_ble_eq_true rfl⟩) hK hN hP hD [4, 5, 6, 7, 0, 8, 9, 10] rfl (by decide) 4 5 rfl rfl rfl hl.1 rfl (Nat.le_of_ble_eq_true rfl) dX3_paidOf_21 ⟨Nat.zero_le _, Nat.zero_le _⟩) hP hD hS hA [4, 5, 6, 7, 0, 8, 9, 10] [1, 2, 3, 11, 12, 13, 14, 15, 16] rfl rfl (by decide) (by decide) [13, 0, 1, 2, 9, 10, 11, 12, 14, 15, 16, 3, 4, 5, 6, 7, 8] (by decide) rfl rfl (fun H locs hP hD hS => ?_)
  refine lv_iconst (v := 0) hx hb dX3_paidOf_24 (by decide) ?_
  refine lv_istore (lv' := [(7, .int 0), (6, .int 0), (5, .int r5), (0, .ref aG), (1, .int x1), (2, .ref aH), (3, .ref aD), (4, .int x4)]) hx hb dX3_paidOf_25 hl (by decide) rfl (fun ls hl => ?_)
  exact L27 5000 r5 (0 : Int32) (0 : Int32) vW_cells_21 vW_inFront vW_who_21 vW_21 H locs ls hP hD hS (lv_sub hl [3, 4, 5, 2, 1, 0] rfl) hok
def wsX3_bestInRing : List Cond := .code yX3_bestInRing cX3_bestInRing 12 (some .int) :: W0
abbrev wX3_bestInRing (cy : Nat → ClassId) (aG : Nat) (aH : Nat) (aD : Nat) (qH : Nat → Nat) (qU : Nat → Nat) (qD : Nat → Nat) (qG : Nat → Nat) (qW : Nat → Nat) (aH0 : Nat) (vH : Nat → Int32) (vU : Nat → Int32) (vU_worths : Nat → Int32) (vD : Nat → Int32) (vD_now : Nat → Int32) (vH_kinds : Nat → Int32) (vU_nights : Nat → Int32) (vG : Nat → Int32) (vW : Nat → Int32) (vW_who : Nat → Int32) (vW_cells : Nat → Int32) (vH_sorts : Nat → Int32) (vH_next : Nat → Int32) (vW_inFront : Nat → Int32) (vH_sizes : Nat → Int32) (vH_width : Nat → Int32) (vU_things : Nat → Int32) (vU_cells : Nat → Int32) : va_W := [(aH, oX4 vH qH), (qH 7, oX7 vU qU), (qU 4, rI cy 6 vU_worths), (aD, oX1 vD qD), (qD 0, rI cy 9 vD_now), (qH 14, rI cy 7 vH_kinds), (qU 3, rI cy 6 vU_nights), (aG, oX3 vG qG), (qG 0, oX6 vW qW aH0), (qW 1, rI cy 36 vW_who), (qW 0, rI cy 7 vW_cells), (qH 8, rI cy 4 vH_sorts), (qH 10, rI cy 36 vH_next), (qW 2, rI cy 7 vW_inFront), (qH 15, rI cy 7 vH_sizes), (qH 11, rI cy 36 vH_width), (qU 1, rI cy 6 vU_things), (qU 2, rI cy 6 vU_cells)]
set_option maxHeartbeats 4000000 in
set_option maxRecDepth 100000 in
theorem kX3_bestInRing (l : Launch) (D : va_G) (cy : Nat → ClassId) (sz : Nat) (aG : Nat) (aH : Nat) (aD : Nat) (qH : Nat → Nat) (qU : Nat → Nat) (qD : Nat → Nat) (qG : Nat → Nat) (qW : Nat → Nat) (aH0 : Nat) (vH : Nat → Int32) (vU : Nat → Int32) (vU_worths : Nat → Int32) (vD : Nat → Int32) (vD_now : Nat → Int32) (vH_kinds : Nat → Int32) (vU_nights : Nat → Int32) (vG : Nat → Int32) (vW : Nat → Int32) (vW_who : Nat → Int32) (vW_cells : Nat → Int32) (vH_sorts : Nat → Int32) (vH_next : Nat → Int32) (vW_inFront : Nat → Int32) (vH_sizes : Nat → Int32) (vH_width : Nat → Int32) (vU_things : Nat → Int32) (vU_cells : Nat → Int32) (x3 : Int32) (x4 : Int32) (zr : Int32) (z_vW : Nat → Int32) (z_vW_who : Nat → Int32) (z_vW_cells : Nat → Int32) (z_vW_inFront : Nat → Int32) (z_aH0 : Nat) (hok : fX3_bestInRing aH aH0 vH vU vU_worths vD vD_now vH_kinds vU_nights vG vW vW_who vW_cells vH_sorts vH_next vW_inFront vH_sizes vH_width vU_things vU_cells x3 x4 = some (zr, z_vW, z_vW_who, z_vW_cells, z_vW_inFront, z_aH0)) (A : Nat → Prop) (hAe : va_A (wX3_bestInRing cy aG aH aD qH qU qD qG qW aH0 vH vU vU_worths vD vD_now vH_kinds vU_nights vG vW vW_who vW_cells vH_sorts vH_next vW_inFront vH_sizes vH_width vU_things vU_cells) sz = A) : Met l yX3_bestInRing wsX3_bestInRing ({ frames := 4, cells := 0, slots := 0, locals := 100 } : Room) (kPre D cy [.ref aG, .ref aH, .ref aD, .int x3, .int x4] (wX3_bestInRing cy aG aH aD qH qU qD qG qW aH0 vH vU vU_worths vD vD_now vH_kinds vU_nights vG vW vW_who vW_cells vH_sorts vH_next vW_inFront vH_sizes vH_width vU_things vU_cells) sz) (kQi D cy zr A (wX3_bestInRing cy aG aH aD qH qU qD qG qW z_aH0 vH vU vU_worths vD vD_now vH_kinds vU_nights vG z_vW z_vW_who z_vW_cells vH_sorts vH_next z_vW_inFront vH_sizes vH_width vU_things vU_cells)) 0 0 A := by
  refine Met.ofW (cc := cX3_bestInRing) (maxL := 12) (ret := (some .int)) (by decide) rfl ?_
  intro p e s m args below meth c s₁ B hml hv
  obtain ⟨rfl, hsz, hP, hK, hD0, hN⟩ := hv
  have hx := B.exec
  have hb := B.bytes
  have hr := B.returns
  have ht0 : ∀ w ∈ W0, w.before _ s = true := fun w h => atoms_spec (ws := wsX3_bestInRing) B.pre w (List.mem_cons_of_mem _ h)
  have hown : s.vm.findClass RX3 = some m.cls := findClass_of_methodNamed B.named
  have hlocks := B.notSynchronized
  subst hsz
  have hD : va_D A (wX3_bestInRing cy aG aH aD qH qU qD qG qW aH0 vH vU vU_worths vD vD_now vH_kinds vU_nights vG vW vW_who vW_cells vH_sorts vH_next vW_inFront vH_sizes vH_width vU_things vU_cells) := by rw [← hAe]; exact hD0.self
  have hA : ∀ q : Nat, s.heap.size ≤ q → A q := fun q h => by rw [← hAe]; exact Or.inr h
  have hS : va_S A s.heap s.heap [] := va_S.rf
  have hl := lv_entry ([.ref aG, .ref aH, .ref aD, .int x3, .int x4]) (n := 12) (Nat.le_of_ble_eq_true rfl)
  rw [lg_entry_eq]
  generalize (lg_sl ([.ref aG, .ref aH, .ref aD, .int x3, .int x4]) ++ List.replicate (12 - (lg_sl ([.ref aG, .ref aH, .ref aD, .int x3, .int x4])).length) Slot.unset).toArray = ls at hl ⊢
  have hl : lv_has ls 12 [(0, .ref aG), (1, .ref aH), (2, .ref aD), (3, .int x3), (4, .int x4)] := hl
  generalize hQe : MQ below (kQi D cy zr A (wX3_bestInRing cy aG aH aD qH qU qD qG qW z_aH0 vH vU vU_worths vD vD_now vH_kinds vU_nights vG z_vW z_vW_who z_vW_cells vH_sorts vH_next z_vW_inFront vH_sizes vH_width vU_things vU_cells)) ([.ref aG, .ref aH, .ref aD, .int x3, .int x4] : List Value).toArray s 0 0 A = Q
  have L30 : ∀ (fuel : Nat) (y5_30 : Int32) (y6_30 : Int32) (y7_30 : Int32) (y8_30 : Int32) (y9_30 : Int32) (vW_cells_30 : Nat → Int32) (vW_inFront_30 : Nat → Int32) (vW_who_30 : Nat → Int32) (vW_4_30 : Nat) (vW_30 : Nat → Int32), ∀ (H : Heap) (locs : List Loc) (ls : Array Slot), va_P D vwCl (wX3_bestInRing cy aG aH aD qH qU qD qG qW vW_4_30 vH vU vU_worths vD vD_now vH_kinds vU_nights vG vW_30 vW_who_30 vW_cells_30 vH_sorts vH_next vW_inFront_30 vH_sizes vH_width vU_things vU_cells) H → va_D A (wX3_bestInRing cy aG aH aD qH qU qD qG qW vW_4_30 vH vU vU_worths vD vD_now vH_kinds vU_nights vG vW_30 vW_who_30 vW_cells_30 vH_sorts vH_next vW_inFront_30 vH_sizes vH_width vU_things vU_cells) → va_S A s.heap H locs → lv_has ls 12 [(0, .ref aG), (1, .ref aH), (2, .ref aD), (3, .int x3), (5, .int y5_30), (6, .int y6_30), (7, .int y7_30), (8, .int y8_30), (9, .int y9_30)] → lp (fX3_bestInRing_B30 aH vH vU vU_worths vD vD_now vH_kinds vU_nights vG vH_sorts vH_next vH_sizes vH_width vU_things vU_cells x3) fuel (y5_30, y6_30, y7_30, y8_30, y9_30, vW_cells_30, vW_inFront_30, vW_who_30, vW_4_30, vW_30) = some (zr, z_vW, z_vW_who, z_vW_cells, z_vW_inFront, z_aH0) → W p l e ({ frames := 4, cells := 0, slots := 0, locals := 100 } : Room) s m ([.ref aG, .ref aH, .ref aD, .int x3, .int x4] : List Value).toArray below meth c H locs 0 0 Q (F0 m 30 ls []) := by
    intro fuel
    induction fuel with
    | zero => intro y5_30 y6_30 y7_30 y8_30 y9_30 vW_cells_30 vW_inFront_30 vW_who_30 vW_4_30 vW_30 H locs ls hP hD hS hl hok; exact (lp_0 hok).elim
    | succ fuel ih30 =>
      intro y5_30 y6_30 y7_30 y8_30 y9_30 vW_cells_30 vW_inFront_30 vW_who_30 vW_4_30 vW_30 H locs ls hP hD hS hl hok
      obtain ⟨y30, hok, hL30, hR30⟩ := lp_step hok
      have J108 : ∀ (y7_108 : Int32) (y8_108 : Int32) (vW_cells_108 : Nat → Int32) (vW_inFront_108 : Nat → Int32) (vW_who_108 : Nat → Int32) (vW_4_108 : Nat) (vW_108 : Nat → Int32), ∀ (H : Heap) (locs : List Loc) (ls : Array Slot), va_P D vwCl (wX3_bestInRing cy aG aH aD qH qU qD qG qW vW_4_108 vH vU vU_worths vD vD_now vH_kinds vU_nights vG vW_108 vW_who_108 vW_cells_108 vH_sorts vH_next vW_inFront_108 vH_sizes vH_width vU_things vU_cells) H → va_D A (wX3_bestInRing cy aG aH aD qH qU qD qG qW vW_4_108 vH vU vU_worths vD vD_now vH_kinds vU_nights vG vW_108 vW_who_108 vW_cells_108 vH_sorts vH_next vW_inFront_108 vH_sizes vH_width vU_things vU_cells) → va_S A s.heap H locs → lv_has ls 12 [(0, .ref aG), (1, .ref aH), (2, .ref aD), (3, .int x3), (5, .int y5_30), (6, .int y6_30), (7, .int y7_108), (8, .int y8_108), (9, .int y9_30)] → fX3_bestInRing_J108 y5_30 y6_30 y9_30 y7_108 y8_108 vW_cells_108 vW_inFront_108 vW_who_108 vW_4_108 vW_108 = some y30 → W p l e ({ frames := 4, cells := 0, slots := 0, locals := 100 } : Room) s m ([.ref aG, .ref aH, .ref aD, .int x3, .int x4] : List Value).toArray below meth c H locs 0 0 Q (F0 m 108 ls []) := by
        intro y7_108 y8_108 vW_cells_108 vW_inFront_108 vW_who_108 vW_4_108 vW_108 H locs ls hP hD hS hl hok
        unfold fX3_bestInRing_J108 at hok
        refine lv_iinc (v := (y9_30 + 1)) (lv' := [(9, .int (y9_30 + 1)), (0, .ref aG), (1, .ref aH), (2, .ref aD), (3, .int x3), (5, .int y5_30), (6, .int y6_30), (7, .int y7_108), (8, .int y8_108)]) hx hb dX3_bestInRing_108 hl (k := 8) rfl (by first | rfl | decide) (by decide) rfl (fun ls hl => ?_)
        refine lv_goto (tgt := 30) hx hb dX3_bestInRing_111 (by decide) ?_
        exact ih30 y5_30 y6_30 y7_108 y8_108 (y9_30 + 1) vW_cells_108 vW_inFront_108 vW_who_108 vW_4_108 vW_108 H locs ls hP hD hS (lv_sub hl [1, 2, 3, 4, 5, 6, 7, 8, 0] rfl) (hR30 _ (Option.some.inj hok).symm)
      have L43 : ∀ (fuel : Nat) (y7_43 : Int32) (y8_43 : Int32) (y10_43 : Int32) (vW_cells_43 : Nat → Int32) (vW_inFront_43 : Nat → Int32) (vW_who_43 : Nat → Int32) (vW_4_43 : Nat) (vW_43 : Nat → Int32), ∀ (H : Heap) (locs : List Loc) (ls : Array Slot), va_P D vwCl (wX3_bestInRing cy aG aH aD qH qU qD qG qW vW_4_43 vH vU vU_worths vD vD_now vH_kinds vU_nights vG vW_43 vW_who_43 vW_cells_43 vH_sorts vH_next vW_inFront_43 vH_sizes vH_width vU_things vU_cells) H → va_D A (wX3_bestInRing cy aG aH aD qH qU qD qG qW vW_4_43 vH vU vU_worths vD vD_now vH_kinds vU_nights vG vW_43 vW_who_43 vW_cells_43 vH_sorts vH_next vW_inFront_43 vH_sizes vH_width vU_things vU_cells) → va_S A s.heap H locs → lv_has ls 12 [(0, .ref aG), (1, .ref aH), (2, .ref aD), (3, .int x3), (5, .int y5_30), (6, .int y6_30), (7, .int y7_43), (8, .int y8_43), (9, .int y9_30), (10, .int y10_43)] → lp (fX3_bestInRing_B43 aH vH vU vU_worths vD vD_now vH_kinds vU_nights vG vH_sorts vH_next vH_sizes vH_width vU_things vU_cells x3 y5_30 y6_30 y9_30) fuel (y7_43, y8_43, y10_43, vW_cells_43, vW_inFront_43, vW_who_43, vW_4_43, vW_43) = some y30 → W p l e ({ frames := 4, cells := 0, slots := 0, locals := 100 } : Room) s m ([.ref aG, .ref aH, .ref aD, .int x3, .int x4] : List Value).toArray below meth c H locs 0 0 Q (F0 m 43 ls []) := by
        intro fuel
        induction fuel with
        | zero => intro y7_43 y8_43 y10_43 vW_cells_43 vW_inFront_43 vW_who_43 vW_4_43 vW_43 H locs ls hP hD hS hl hok; exact (lp_0 hok).elim
        | succ fuel ih43 =>
          intro y7_43 y8_43 y10_43 vW_cells_43 vW_inFront_43 vW_who_43 vW_4_43 vW_43 H locs ls hP hD hS hl hok
          obtain ⟨y43, hok, hL43, hR43⟩ := lp_step hok
          have J102 : ∀ (y7_102 : Int32) (y8_102 : Int32) (vW_cells_102 : Nat → Int32) (vW_inFront_102 : Nat → Int32) (vW_who_102 : Nat → Int32) (vW_4_102 : Nat) (vW_102 : Nat → Int32), ∀ (H : Heap) (locs : List Loc) (ls : Array Slot), va_P D vwCl (wX3_bestInRing cy aG aH aD qH qU qD qG qW vW_4_102 vH vU vU_worths vD vD_now vH_kinds vU_nights vG vW_102 vW_who_102 vW_cells_102 vH_sorts vH_next vW_inFront_102 vH_sizes vH_width vU_things vU_cells) H → va_D A (wX3_bestInRing cy aG aH aD qH qU qD qG qW vW_4_102 vH vU vU_worths vD vD_now vH_kinds vU_nights vG vW_102 vW_who_102 vW_cells_102 vH_sorts vH_next vW_inFront_102 vH_sizes vH_width vU_things vU_cells) → va_S A s.heap H locs → lv_has ls 12 [(0, .ref aG), (1, .ref aH), (2, .ref aD), (3, .int x3), (5, .int y5_30), (6, .int y6_30), (7, .int y7_102), (8, .int y8_102), (9, .int y9_30), (10, .int y10_43)] → fX3_bestInRing_J102 y10_43 y7_102 y8_102 vW_cells_102 vW_inFront_102 vW_who_102 vW_4_102 vW_102 = some y43 → W p l e ({ frames := 4, cells := 0, slots := 0, locals := 100 } : Room) s m ([.ref aG, .ref aH, .ref aD, .int x3, .int x4] : List Value).toArray below meth c H locs 0 0 Q (F0 m 102 ls []) := by
            intro y7_102 y8_102 vW_cells_102 vW_inFront_102 vW_who_102 vW_4_102 vW_102 H locs ls hP hD hS hl hok
            unfold fX3_bestInRing_J102 at hok
            refine lv_iinc (v := (y10_43 + 1)) (lv' := [(10, .int (y10_43 + 1)), (0, .ref aG), (1, .ref aH), (2, .ref aD), (3, .int x3), (5, .int y5_30), (6, .int y6_30), (7, .int y7_102), (8, .int y8_102), (9, .int y9_30)]) hx hb dX3_bestInRing_102 hl (k := 9) rfl (by first | rfl | decide) (by decide) rfl (fun ls hl => ?_)
            refine lv_goto (tgt := 43) hx hb dX3_bestInRing_105 (by decide) ?_
            exact ih43 y7_102 y8_102 (y10_43 + 1) vW_cells_102 vW_inFront_102 vW_who_102 vW_4_102 vW_102 H locs ls hP hD hS (lv_sub hl [1, 2, 3, 4, 5, 6, 7, 8, 9, 0] rfl) (hR43 _ (Option.some.inj hok).symm)
          unfold fX3_bestInRing_B43 at hok
          try dsimp only at hok
          refine lv_iload hx hb dX3_bestInRing_43 (lv_at hl 9 rfl) ?_
          refine lv_iload hx hb dX3_bestInRing_45 (lv_at hl 5 rfl) ?_
          refine lv_icmp_gt (tgt := 108) hx hb dX3_bestInRing_47 (by decide) (fun c47 => ?_) (fun c47 => ?_)
          · have hok := k_pos c47 hok
            obtain ⟨e43, hok, he43⟩ := ex_some hok
            have hok := hok.trans (congrArg some (hL43 _ he43))
            exact J108 y7_43 y8_43 vW_cells_43 vW_inFront_43 vW_who_43 vW_4_43 vW_43 H locs ls hP hD hS (lv_sub hl [0, 1, 2, 3, 4, 5, 6, 7, 8] rfl) hok
          · have hok := k_neg c47 hok
            refine lv_iload hx hb dX3_bestInRing_50 (lv_at hl 6 rfl) ?_
            refine lv_iload hx hb dX3_bestInRing_52 (lv_at hl 4 rfl) ?_
            refine lv_icmp_ge (tgt := 108) hx hb dX3_bestInRing_54 (by decide) (fun c54 => ?_) (fun c54 => ?_)
            · have hok := k_pos c54 hok
              obtain ⟨e43, hok, he43⟩ := ex_some hok
              have hok := hok.trans (congrArg some (hL43 _ he43))
              exact J108 y7_43 y8_43 vW_cells_43 vW_inFront_43 vW_who_43 vW_4_43 vW_43 H locs ls hP hD hS (lv_sub hl [0, 1, 2, 3, 4, 5, 6, 7, 8] rfl) hok
            · have hok := k_neg c54 hok
              refine lv_iload hx hb dX3_bestInRing_57 (lv_at hl 9 rfl) ?_
              refine lv_iload hx hb dX3_bestInRing_59 (lv_at hl 8 rfl) ?_
              refine lv_iload hx hb dX3_bestInRing_61 (lv_at hl 5 rfl) ?_
              obtain ⟨r63, hc63, hok⟩ := k_bind hok
              refine kCi (wc := (wX3_isOfThese cy )) (wc2 := (wX3_isOfThese cy )) (wr := [(aH, oX4 vH qH), (qH 7, oX7 vU qU), (qU 4, rI cy 6 vU_worths), (aD, oX1 vD qD), (qD 0, rI cy 9 vD_now), (qH 14, rI cy 7 vH_kinds), (qU 3, rI cy 6 vU_nights), (aG, oX3 vG qG), (qG 0, oX6 vW_43 qW vW_4_43), (qW 1, rI cy 36 vW_who_43), (qW 0, rI cy 7 vW_cells_43), (qH 8, rI cy 4 vH_sorts), (qH 10, rI cy 36 vH_next), (qW 2, rI cy 7 vW_inFront_43), (qH 15, rI cy 7 vH_sizes), (qH 11, rI cy 36 vH_width), (qU 1, rI cy 6 vU_things), (qU 2, rI cy 6 vU_cells)]) (ws2 := (wX3_bestInRing cy aG aH aD qH qU qD qG qW vW_4_43 vH vU vU_worths vD vD_now vH_kinds vU_nights vG vW_43 vW_who_43 vW_cells_43 vH_sorts vH_next vW_inFront_43 vH_sizes vH_width vU_things vU_cells)) (kRunS (As := [.int y10_43, .int y9_30, .int y6_30]) (rest := []) ⟨hx, hb, hml, hown, ht0⟩ (kX3_isOfThese l D cy _ y10_43 y9_30 y6_30 r63 hc63 _ rfl) (va_cwS 3 ht0 (gS wd176 wd177 wd178 wd179) rfl rfl rfl (by decide +kernel) ⟨Nat.le_of_ble_eq_true rfl, Nat.le_of_ble_eq_true rfl⟩) hK hN hP hD [] rfl (by decide) rfl hl.1 rfl (Nat.le_of_ble_eq_true rfl) dX3_bestInRing_63 ⟨Nat.zero_le _, Nat.zero_le _⟩) hP hD hS hA [] [0, 1, 2, 3, 4, 5, 6, 7, 8, 9, 10, 11, 12, 13, 14, 15, 16, 17] rfl rfl (by decide) (by decide) [0, 1, 2, 3, 4, 5, 6, 7, 8, 9, 10, 11, 12, 13, 14, 15, 16, 17] (by decide) rfl rfl (fun H locs hP hD hS => ?_)
              refine lv_if_eq (tgt := 102) hx hb dX3_bestInRing_66 (by decide) (fun c66 => ?_) (fun c66 => ?_)
              · have hok := k_pos c66 hok
                exact J102 y7_43 y8_43 vW_cells_43 vW_inFront_43 vW_who_43 vW_4_43 vW_43 H locs ls hP hD hS (lv_sub hl [0, 1, 2, 3, 4, 5, 6, 7, 8, 9] rfl) hok
              · have hok := k_neg c66 hok
                refine lv_aload_n hx hb dX3_bestInRing_69 rfl (lv_at hl 1 rfl) ?_
                refine va_get (D := D) (ci := 3) (v := .ref (qH 7)) (C := RX4) (T := TX4) (N := 20) hx hb ht0 niX4 hown hK hP 0 rfl rfl 7 (by decide) (ht0 _ wd214) (fun _ h9 => h9) rfl dX3_bestInRing_70 ?_
                refine lv_aload_n hx hb dX3_bestInRing_73 rfl (lv_at hl 0 rfl) ?_
                refine lv_iload_n hx hb dX3_bestInRing_74 rfl (lv_at hl 3 rfl) ?_
                refine lv_aload_n hx hb dX3_bestInRing_75 rfl (lv_at hl 1 rfl) ?_
                refine lv_aload_n hx hb dX3_bestInRing_76 rfl (lv_at hl 2 rfl) ?_
                refine lv_iload hx hb dX3_bestInRing_77 (lv_at hl 9 rfl) ?_
                obtain ⟨⟨r79, vW_79, vW_who_79, vW_cells_79, vW_inFront_79⟩, hc79, hok⟩ := k_bind hok
                try dsimp only at hok
                refine kCi (wc := (wX3_paidOf cy aG aH aD qH qU qG qW vW_4_43 qD vH vU vU_nights vG vW_43 vD vD_now vW_who_43 vH_kinds vW_cells_43 vH_sorts vH_next vW_inFront_43 vH_sizes vH_width vU_things vU_cells)) (wc2 := (wX3_paidOf cy aG aH aD qH qU qG qW aH qD vH vU vU_nights vG vW_79 vD vD_now vW_who_79 vH_kinds vW_cells_79 vH_sorts vH_next vW_inFront_79 vH_sizes vH_width vU_things vU_cells)) (wr := [(qU 4, rI cy 6 vU_worths)]) (ws2 := (wX3_bestInRing cy aG aH aD qH qU qD qG qW aH vH vU vU_worths vD vD_now vH_kinds vU_nights vG vW_79 vW_who_79 vW_cells_79 vH_sorts vH_next vW_inFront_79 vH_sizes vH_width vU_things vU_cells)) (kRunV (As := [.int x3, .ref aH, .ref aD, .int y10_43]) (rest := [.ref (qH 7)]) ⟨hx, hb, hml, hown, ht0⟩ (kX3_paidOf l D cy _ aG aH aD qH qU qG qW vW_4_43 qD vH vU vU_nights vG vW_43 vD vD_now vW_who_43 vH_kinds vW_cells_43 vH_sorts vH_next vW_inFront_43 vH_sizes vH_width vU_things vU_cells x3 y10_43 r79 vW_79 vW_who_79 vW_cells_79 vW_inFront_79 hc79 _ rfl) (cwV 4 ht0 (gV wd224 wd225 wd226 wd178 wd227) rfl rfl rfl (by decide +kernel) ⟨Nat.le_of_ble_eq_true rfl, Nat.le_of_ble_eq_true rfl⟩) hK hN hP hD [0, 1, 6, 7, 8, 3, 4, 9, 5, 10, 11, 12, 13, 14, 15, 16, 17] rfl (by decide) 7 2 rfl rfl rfl hl.1 rfl (Nat.le_of_ble_eq_true rfl) dX3_bestInRing_79 ⟨Nat.zero_le _, Nat.zero_le _⟩) hP hD hS hA [0, 1, 6, 7, 8, 3, 4, 9, 5, 10, 11, 12, 13, 14, 15, 16, 17] [2] rfl rfl (by decide) (by decide) [1, 2, 0, 6, 7, 9, 3, 4, 5, 8, 10, 11, 12, 13, 14, 15, 16, 17] (by decide) rfl rfl (fun H locs hP hD hS => ?_)
                obtain ⟨r82, hc82, hok⟩ := k_bind hok
                refine kCi (wc := (wX7_worthOf cy (qH 7) qU vU vU_worths)) (wc2 := (wX7_worthOf cy (qH 7) qU vU vU_worths)) (wr := [(aH, oX4 vH qH), (aD, oX1 vD qD), (qD 0, rI cy 9 vD_now), (qH 14, rI cy 7 vH_kinds), (qU 3, rI cy 6 vU_nights), (aG, oX3 vG qG), (qG 0, oX6 vW_79 qW aH), (qW 1, rI cy 36 vW_who_79), (qW 0, rI cy 7 vW_cells_79), (qH 8, rI cy 4 vH_sorts), (qH 10, rI cy 36 vH_next), (qW 2, rI cy 7 vW_inFront_79), (qH 15, rI cy 7 vH_sizes), (qH 11, rI cy 36 vH_width), (qU 1, rI cy 6 vU_things), (qU 2, rI cy 6 vU_cells)]) (ws2 := (wX3_bestInRing cy aG aH aD qH qU qD qG qW aH vH vU vU_worths vD vD_now vH_kinds vU_nights vG vW_79 vW_who_79 vW_cells_79 vH_sorts vH_next vW_inFront_79 vH_sizes vH_width vU_things vU_cells)) (kRunV (As := [.int r79]) (rest := []) ⟨hx, hb, hml, hown, ht0⟩ (kX7_worthOf l D cy _ (qH 7) qU vU vU_worths r79 r82 hc82 _ rfl) (cwV 1 ht0 (gV wd228 wd229 wd230 wd218 wd231) rfl rfl rfl (by decide +kernel) ⟨Nat.le_of_ble_eq_true rfl, Nat.le_of_ble_eq_true rfl⟩) hK hN hP hD [1, 2] rfl (by decide) 1 6 rfl rfl rfl hl.1 rfl (Nat.le_of_ble_eq_true rfl) dX3_bestInRing_82 ⟨Nat.zero_le _, Nat.zero_le _⟩) hP hD hS hA [1, 2] [0, 3, 4, 5, 6, 7, 8, 9, 10, 11, 12, 13, 14, 15, 16, 17] rfl rfl (by decide) (by decide) [0, 16, 17, 1, 2, 3, 4, 5, 6, 7, 8, 9, 10, 11, 12, 13, 14, 15] (by decide) rfl rfl (fun H locs hP hD hS => ?_)
                refine lv_istore (lv' := [(11, .int r82), (0, .ref aG), (1, .ref aH), (2, .ref aD), (3, .int x3), (5, .int y5_30), (6, .int y6_30), (7, .int y7_43), (8, .int y8_43), (9, .int y9_30), (10, .int y10_43)]) hx hb dX3_bestInRing_85 hl (by decide) rfl (fun ls hl => ?_)
                refine lv_iload hx hb dX3_bestInRing_87 (lv_at hl 0 rfl) ?_
                refine lv_iload hx hb dX3_bestInRing_89 (lv_at hl 7 rfl) ?_
                refine lv_icmp_le (tgt := 102) hx hb dX3_bestInRing_91 (by decide) (fun c91 => ?_) (fun c91 => ?_)
                · have hok := k_pos c91 hok
                  exact J102 y7_43 y8_43 vW_cells_79 vW_inFront_79 vW_who_79 aH vW_79 H locs ls hP hD hS (lv_sub hl [1, 2, 3, 4, 5, 6, 7, 8, 9, 10] rfl) hok
                · have hok := k_neg c91 hok
                  refine lv_iload hx hb dX3_bestInRing_94 (lv_at hl 0 rfl) ?_
                  refine lv_istore (lv' := [(7, .int r82), (11, .int r82), (0, .ref aG), (1, .ref aH), (2, .ref aD), (3, .int x3), (5, .int y5_30), (6, .int y6_30), (8, .int y8_43), (9, .int y9_30), (10, .int y10_43)]) hx hb dX3_bestInRing_96 hl (by decide) rfl (fun ls hl => ?_)
                  refine lv_iload hx hb dX3_bestInRing_98 (lv_at hl 10 rfl) ?_
                  refine lv_istore (lv' := [(8, .int y10_43), (7, .int r82), (11, .int r82), (0, .ref aG), (1, .ref aH), (2, .ref aD), (3, .int x3), (5, .int y5_30), (6, .int y6_30), (9, .int y9_30), (10, .int y10_43)]) hx hb dX3_bestInRing_100 hl (by decide) rfl (fun ls hl => ?_)
                  exact J102 r82 y10_43 vW_cells_79 vW_inFront_79 vW_who_79 aH vW_79 H locs ls hP hD hS (lv_sub hl [3, 4, 5, 6, 7, 8, 1, 0, 9, 10] rfl) hok
      unfold fX3_bestInRing_B30 at hok
      try dsimp only at hok
      refine lv_iload hx hb dX3_bestInRing_30 (lv_at hl 8 rfl) ?_
      refine lv_iload hx hb dX3_bestInRing_32 (lv_at hl 5 rfl) ?_
      obtain ⟨r34, hc34, hok⟩ := k_bind hok
      refine kCi (wc := (wJ6_bitCount_0f7a4 cy )) (wc2 := (wJ6_bitCount_0f7a4 cy )) (wr := [(aH, oX4 vH qH), (qH 7, oX7 vU qU), (qU 4, rI cy 6 vU_worths), (aD, oX1 vD qD), (qD 0, rI cy 9 vD_now), (qH 14, rI cy 7 vH_kinds), (qU 3, rI cy 6 vU_nights), (aG, oX3 vG qG), (qG 0, oX6 vW_30 qW vW_4_30), (qW 1, rI cy 36 vW_who_30), (qW 0, rI cy 7 vW_cells_30), (qH 8, rI cy 4 vH_sorts), (qH 10, rI cy 36 vH_next), (qW 2, rI cy 7 vW_inFront_30), (qH 15, rI cy 7 vH_sizes), (qH 11, rI cy 36 vH_width), (qU 1, rI cy 6 vU_things), (qU 2, rI cy 6 vU_cells)]) (ws2 := (wX3_bestInRing cy aG aH aD qH qU qD qG qW vW_4_30 vH vU vU_worths vD vD_now vH_kinds vU_nights vG vW_30 vW_who_30 vW_cells_30 vH_sorts vH_next vW_inFront_30 vH_sizes vH_width vU_things vU_cells)) (kRunS (As := [.int y6_30]) (rest := [.int y9_30]) ⟨hx, hb, hml, hown, ht0⟩ (kJ6_bitCount_0f7a4 l D cy _ y6_30 r34 hc34 _ rfl) (va_cwS 1 ht0 (gS wd88 wd89 wd90 wd91) rfl rfl rfl (by decide +kernel) ⟨Nat.le_of_ble_eq_true rfl, Nat.le_of_ble_eq_true rfl⟩) hK hN hP hD [] rfl (by decide) rfl hl.1 rfl (Nat.le_of_ble_eq_true rfl) dX3_bestInRing_34 ⟨Nat.zero_le _, Nat.zero_le _⟩) hP hD hS hA [] [0, 1, 2, 3, 4, 5, 6, 7, 8, 9, 10, 11, 12, 13, 14, 15, 16, 17] rfl rfl (by decide) (by decide) [0, 1, 2, 3, 4, 5, 6, 7, 8, 9, 10, 11, 12, 13, 14, 15, 16, 17] (by decide) rfl rfl (fun H locs hP hD hS => ?_)
      refine lv_icmp_gt (tgt := 114) hx hb dX3_bestInRing_37 (by decide) (fun c37 => ?_) (fun c37 => ?_)
      · have hok := k_pos c37 hok
        obtain ⟨e30, hok, he30⟩ := ex_some hok
        have hok := hok.trans (congrArg some (hL30 _ he30))
        refine lv_iload hx hb dX3_bestInRing_114 (lv_at hl 7 rfl) ?_
        cases hok
        subst hQe; exact W.iret hx hb hr (fun t ht hW => ⟨⟨_, (), rfl, rfl, by rw [ht]; exact hP, va_K.moved hW.alike hK, hD⟩, hS.F ht⟩) hS.2.2 dX3_bestInRing_116
      · have hok := k_neg c37 hok
        refine lv_iconst (v := 0) hx hb dX3_bestInRing_40 (by decide) ?_
        refine lv_istore (lv' := [(10, .int 0), (0, .ref aG), (1, .ref aH), (2, .ref aD), (3, .int x3), (5, .int y5_30), (6, .int y6_30), (7, .int y7_30), (8, .int y8_30), (9, .int y9_30)]) hx hb dX3_bestInRing_41 hl (by decide) rfl (fun ls hl => ?_)
        exact L43 5000 y7_30 y8_30 (0 : Int32) vW_cells_30 vW_inFront_30 vW_who_30 vW_4_30 vW_30 H locs ls hP hD hS (lv_sub hl [1, 2, 3, 4, 5, 6, 7, 8, 9, 0] rfl) hok
  unfold fX3_bestInRing at hok
  obtain ⟨H, hH⟩ : ∃ H, H = s.heap := ⟨_, rfl⟩
  obtain ⟨locs, hlc⟩ : ∃ x : List Loc, x = [] := ⟨_, rfl⟩
  have hP : va_P D vwCl (wX3_bestInRing cy aG aH aD qH qU qD qG qW aH0 vH vU vU_worths vD vD_now vH_kinds vU_nights vG vW vW_who vW_cells vH_sorts vH_next vW_inFront vH_sizes vH_width vU_things vU_cells) H := by rw [hH]; exact hP
  have hS : va_S A s.heap H locs := by rw [hH, hlc]; exact hS
  rw [show W p l e _ s m _ below meth c s.heap [] = W p l e _ s m _ below meth c H locs from by rw [hH, hlc]]
  refine lv_aload_n hx hb dX3_bestInRing_0 rfl (lv_at hl 1 rfl) ?_
  refine va_get (D := D) (ci := 3) (v := .ref (qH 7)) (C := RX4) (T := TX4) (N := 20) hx hb ht0 niX4 hown hK hP 0 rfl rfl 7 (by decide) (ht0 _ wd214) (fun _ h9 => h9) rfl dX3_bestInRing_1 ?_
  refine lv_iload_n hx hb dX3_bestInRing_4 rfl (lv_at hl 3 rfl) ?_
  obtain ⟨r5, hc5, hok⟩ := k_bind hok
  refine kCi (wc := (wX7_worthOf cy (qH 7) qU vU vU_worths)) (wc2 := (wX7_worthOf cy (qH 7) qU vU vU_worths)) (wr := [(aH, oX4 vH qH), (aD, oX1 vD qD), (qD 0, rI cy 9 vD_now), (qH 14, rI cy 7 vH_kinds), (qU 3, rI cy 6 vU_nights), (aG, oX3 vG qG), (qG 0, oX6 vW qW aH0), (qW 1, rI cy 36 vW_who), (qW 0, rI cy 7 vW_cells), (qH 8, rI cy 4 vH_sorts), (qH 10, rI cy 36 vH_next), (qW 2, rI cy 7 vW_inFront), (qH 15, rI cy 7 vH_sizes), (qH 11, rI cy 36 vH_width), (qU 1, rI cy 6 vU_things), (qU 2, rI cy 6 vU_cells)]) (ws2 := (wX3_bestInRing cy aG aH aD qH qU qD qG qW aH0 vH vU vU_worths vD vD_now vH_kinds vU_nights vG vW vW_who vW_cells vH_sorts vH_next vW_inFront vH_sizes vH_width vU_things vU_cells)) (kRunV (As := [.int x3]) (rest := []) ⟨hx, hb, hml, hown, ht0⟩ (kX7_worthOf l D cy _ (qH 7) qU vU vU_worths x3 r5 hc5 _ rfl) (cwV 1 ht0 (gV wd228 wd229 wd230 wd218 wd231) rfl rfl rfl (by decide +kernel) ⟨Nat.le_of_ble_eq_true rfl, Nat.le_of_ble_eq_true rfl⟩) hK hN hP hD [1, 2] rfl (by decide) 1 6 rfl rfl rfl hl.1 rfl (Nat.le_of_ble_eq_true rfl) dX3_bestInRing_5 ⟨Nat.zero_le _, Nat.zero_le _⟩) hP hD hS hA [1, 2] [0, 3, 4, 5, 6, 7, 8, 9, 10, 11, 12, 13, 14, 15, 16, 17] rfl rfl (by decide) (by decide) [0, 16, 17, 1, 2, 3, 4, 5, 6, 7, 8, 9, 10, 11, 12, 13, 14, 15] (by decide) rfl rfl (fun H locs hP hD hS => ?_)
  refine lv_istore (lv' := [(5, .int r5), (0, .ref aG), (1, .ref aH), (2, .ref aD), (3, .int x3), (4, .int x4)]) hx hb dX3_bestInRing_8 hl (by decide) rfl (fun ls hl => ?_)
  refine lv_aload_n hx hb dX3_bestInRing_10 rfl (lv_at hl 2 rfl) ?_
  refine lv_aload_n hx hb dX3_bestInRing_11 rfl (lv_at hl 3 rfl) ?_
  refine lv_iconst (v := 1) hx hb dX3_bestInRing_12 (by decide) ?_
  refine lv_iload hx hb dX3_bestInRing_13 (lv_at hl 5 rfl) ?_
  refine lv_ishl hx hb dX3_bestInRing_15 ?_
  obtain ⟨r16, hc16, hok⟩ := k_bind hok
  refine kCi (wc := (wX3_freeIn cy aH aD qH qD vH vD vD_now vH_kinds)) (wc2 := (wX3_freeIn cy aH aD qH qD vH vD vD_now vH_kinds)) (wr := [(qH 7, oX7 vU qU), (qU 4, rI cy 6 vU_worths), (qU 3, rI cy 6 vU_nights), (aG, oX3 vG qG), (qG 0, oX6 vW qW aH0), (qW 1, rI cy 36 vW_who), (qW 0, rI cy 7 vW_cells), (qH 8, rI cy 4 vH_sorts), (qH 10, rI cy 36 vH_next), (qW 2, rI cy 7 vW_inFront), (qH 15, rI cy 7 vH_sizes), (qH 11, rI cy 36 vH_width), (qU 1, rI cy 6 vU_things), (qU 2, rI cy 6 vU_cells)]) (ws2 := (wX3_bestInRing cy aG aH aD qH qU qD qG qW aH0 vH vU vU_worths vD vD_now vH_kinds vU_nights vG vW vW_who vW_cells vH_sorts vH_next vW_inFront vH_sizes vH_width vU_things vU_cells)) (kRunS (As := [.ref aH, .ref aD, .int (isl (1 : Int32) x4)]) (rest := []) ⟨hx, hb, hml, hown, ht0⟩ (kX3_freeIn l D cy _ aH aD qH qD vH vD vD_now vH_kinds (isl (1 : Int32) x4) r16 hc16 _ rfl) (va_cwS 3 ht0 (gS wd192 wd193 wd178 wd194) rfl rfl rfl (by decide +kernel) ⟨Nat.le_of_ble_eq_true rfl, Nat.le_of_ble_eq_true rfl⟩) hK hN hP hD [0, 3, 4, 5] rfl (by decide) rfl hl.1 rfl (Nat.le_of_ble_eq_true rfl) dX3_bestInRing_16 ⟨Nat.zero_le _, Nat.zero_le _⟩) hP hD hS hA [0, 3, 4, 5] [1, 2, 6, 7, 8, 9, 10, 11, 12, 13, 14, 15, 16, 17] rfl rfl (by decide) (by decide) [14, 0, 1, 15, 16, 17, 2, 3, 4, 5, 6, 7, 8, 9, 10, 11, 12, 13] (by decide) rfl rfl (fun H locs hP hD hS => ?_)
  refine lv_istore (lv' := [(6, .int r16), (5, .int r5), (0, .ref aG), (1, .ref aH), (2, .ref aD), (3, .int x3), (4, .int x4)]) hx hb dX3_bestInRing_19 hl (by decide) rfl (fun ls hl => ?_)
  refine lv_iconst (v := -1) hx hb dX3_bestInRing_21 (by decide) ?_
  refine lv_istore (lv' := [(7, .int (-1)), (6, .int r16), (5, .int r5), (0, .ref aG), (1, .ref aH), (2, .ref aD), (3, .int x3), (4, .int x4)]) hx hb dX3_bestInRing_22 hl (by decide) rfl (fun ls hl => ?_)
  refine lv_iconst (v := 0) hx hb dX3_bestInRing_24 (by decide) ?_
  refine lv_istore (lv' := [(8, .int 0), (7, .int (-1)), (6, .int r16), (5, .int r5), (0, .ref aG), (1, .ref aH), (2, .ref aD), (3, .int x3), (4, .int x4)]) hx hb dX3_bestInRing_25 hl (by decide) rfl (fun ls hl => ?_)
  refine lv_iconst (v := 0) hx hb dX3_bestInRing_27 (by decide) ?_
  refine lv_istore (lv' := [(9, .int 0), (8, .int 0), (7, .int (-1)), (6, .int r16), (5, .int r5), (0, .ref aG), (1, .ref aH), (2, .ref aD), (3, .int x3), (4, .int x4)]) hx hb dX3_bestInRing_28 hl (by decide) rfl (fun ls hl => ?_)
  exact L30 5000 r5 r16 (-1 : Int32) (0 : Int32) (0 : Int32) vW_cells vW_inFront vW_who aH0 vW H locs ls hP hD hS (lv_sub hl [5, 6, 7, 8, 4, 3, 2, 1, 0] rfl) hok
def wsX3_bestFor : List Cond := .code yX3_bestFor cX3_bestFor 7 (some .int) :: W0
abbrev wX3_bestFor (cy : Nat → ClassId) (aG : Nat) (aH : Nat) (aD : Nat) (qH : Nat → Nat) (qU : Nat → Nat) (qD : Nat → Nat) (qG : Nat → Nat) (qW : Nat → Nat) (aH0 : Nat) (vH : Nat → Int32) (vU : Nat → Int32) (vU_nights : Nat → Int32) (vD : Nat → Int32) (vD_now : Nat → Int32) (vU_things : Nat → Int32) (vU_cells : Nat → Int32) (vU_worths : Nat → Int32) (vH_kinds : Nat → Int32) (vG : Nat → Int32) (vW : Nat → Int32) (vW_who : Nat → Int32) (vW_cells : Nat → Int32) (vH_sorts : Nat → Int32) (vH_next : Nat → Int32) (vW_inFront : Nat → Int32) (vH_sizes : Nat → Int32) (vH_width : Nat → Int32) : va_W := [(aH, oX4 vH qH), (qH 7, oX7 vU qU), (qU 3, rI cy 6 vU_nights), (aD, oX1 vD qD), (qD 0, rI cy 9 vD_now), (qU 1, rI cy 6 vU_things), (qU 2, rI cy 6 vU_cells), (qU 4, rI cy 6 vU_worths), (qH 14, rI cy 7 vH_kinds), (aG, oX3 vG qG), (qG 0, oX6 vW qW aH0), (qW 1, rI cy 36 vW_who), (qW 0, rI cy 7 vW_cells), (qH 8, rI cy 4 vH_sorts), (qH 10, rI cy 36 vH_next), (qW 2, rI cy 7 vW_inFront), (qH 15, rI cy 7 vH_sizes), (qH 11, rI cy 36 vH_width)]
set_option maxHeartbeats 4000000 in
set_option maxRecDepth 100000 in
theorem kX3_bestFor (l : Launch) (D : va_G) (cy : Nat → ClassId) (sz : Nat) (aG : Nat) (aH : Nat) (aD : Nat) (qH : Nat → Nat) (qU : Nat → Nat) (qD : Nat → Nat) (qG : Nat → Nat) (qW : Nat → Nat) (aH0 : Nat) (vH : Nat → Int32) (vU : Nat → Int32) (vU_nights : Nat → Int32) (vD : Nat → Int32) (vD_now : Nat → Int32) (vU_things : Nat → Int32) (vU_cells : Nat → Int32) (vU_worths : Nat → Int32) (vH_kinds : Nat → Int32) (vG : Nat → Int32) (vW : Nat → Int32) (vW_who : Nat → Int32) (vW_cells : Nat → Int32) (vH_sorts : Nat → Int32) (vH_next : Nat → Int32) (vW_inFront : Nat → Int32) (vH_sizes : Nat → Int32) (vH_width : Nat → Int32) (x3 : Int32) (zr : Int32) (z_vW : Nat → Int32) (z_vW_who : Nat → Int32) (z_vW_cells : Nat → Int32) (z_vW_inFront : Nat → Int32) (z_aH0 : Nat) (hok : fX3_bestFor aH aH0 vH vU vU_nights vD vD_now vU_things vU_cells vU_worths vH_kinds vG vW vW_who vW_cells vH_sorts vH_next vW_inFront vH_sizes vH_width x3 = some (zr, z_vW, z_vW_who, z_vW_cells, z_vW_inFront, z_aH0)) (A : Nat → Prop) (hAe : va_A (wX3_bestFor cy aG aH aD qH qU qD qG qW aH0 vH vU vU_nights vD vD_now vU_things vU_cells vU_worths vH_kinds vG vW vW_who vW_cells vH_sorts vH_next vW_inFront vH_sizes vH_width) sz = A) : Met l yX3_bestFor wsX3_bestFor ({ frames := 5, cells := 0, slots := 0, locals := 131 } : Room) (kPre D cy [.ref aG, .ref aH, .ref aD, .int x3] (wX3_bestFor cy aG aH aD qH qU qD qG qW aH0 vH vU vU_nights vD vD_now vU_things vU_cells vU_worths vH_kinds vG vW vW_who vW_cells vH_sorts vH_next vW_inFront vH_sizes vH_width) sz) (kQi D cy zr A (wX3_bestFor cy aG aH aD qH qU qD qG qW z_aH0 vH vU vU_nights vD vD_now vU_things vU_cells vU_worths vH_kinds vG z_vW z_vW_who z_vW_cells vH_sorts vH_next z_vW_inFront vH_sizes vH_width)) 0 0 A := by
  refine Met.ofW (cc := cX3_bestFor) (maxL := 7) (ret := (some .int)) (by decide) rfl ?_
  intro p e s m args below meth c s₁ B hml hv
  obtain ⟨rfl, hsz, hP, hK, hD0, hN⟩ := hv
  have hx := B.exec
  have hb := B.bytes
  have hr := B.returns
  have ht0 : ∀ w ∈ W0, w.before _ s = true := fun w h => atoms_spec (ws := wsX3_bestFor) B.pre w (List.mem_cons_of_mem _ h)
  have hown : s.vm.findClass RX3 = some m.cls := findClass_of_methodNamed B.named
  have hlocks := B.notSynchronized
  subst hsz
  have hD : va_D A (wX3_bestFor cy aG aH aD qH qU qD qG qW aH0 vH vU vU_nights vD vD_now vU_things vU_cells vU_worths vH_kinds vG vW vW_who vW_cells vH_sorts vH_next vW_inFront vH_sizes vH_width) := by rw [← hAe]; exact hD0.self
  have hA : ∀ q : Nat, s.heap.size ≤ q → A q := fun q h => by rw [← hAe]; exact Or.inr h
  have hS : va_S A s.heap s.heap [] := va_S.rf
  have hl := lv_entry ([.ref aG, .ref aH, .ref aD, .int x3]) (n := 7) (Nat.le_of_ble_eq_true rfl)
  rw [lg_entry_eq]
  generalize (lg_sl ([.ref aG, .ref aH, .ref aD, .int x3]) ++ List.replicate (7 - (lg_sl ([.ref aG, .ref aH, .ref aD, .int x3])).length) Slot.unset).toArray = ls at hl ⊢
  have hl : lv_has ls 7 [(0, .ref aG), (1, .ref aH), (2, .ref aD), (3, .int x3)] := hl
  generalize hQe : MQ below (kQi D cy zr A (wX3_bestFor cy aG aH aD qH qU qD qG qW z_aH0 vH vU vU_nights vD vD_now vU_things vU_cells vU_worths vH_kinds vG z_vW z_vW_who z_vW_cells vH_sorts vH_next z_vW_inFront vH_sizes vH_width)) ([.ref aG, .ref aH, .ref aD, .int x3] : List Value).toArray s 0 0 A = Q
  have L17 : ∀ (fuel : Nat) (y4_17 : Int32) (y5_17 : Int32) (y6_17 : Int32) (vW_cells_17 : Nat → Int32) (vW_inFront_17 : Nat → Int32) (vW_who_17 : Nat → Int32) (vW_4_17 : Nat) (vW_17 : Nat → Int32), ∀ (H : Heap) (locs : List Loc) (ls : Array Slot), va_P D vwCl (wX3_bestFor cy aG aH aD qH qU qD qG qW vW_4_17 vH vU vU_nights vD vD_now vU_things vU_cells vU_worths vH_kinds vG vW_17 vW_who_17 vW_cells_17 vH_sorts vH_next vW_inFront_17 vH_sizes vH_width) H → va_D A (wX3_bestFor cy aG aH aD qH qU qD qG qW vW_4_17 vH vU vU_nights vD vD_now vU_things vU_cells vU_worths vH_kinds vG vW_17 vW_who_17 vW_cells_17 vH_sorts vH_next vW_inFront_17 vH_sizes vH_width) → va_S A s.heap H locs → lv_has ls 7 [(0, .ref aG), (1, .ref aH), (2, .ref aD), (4, .int y4_17), (5, .int y5_17), (6, .int y6_17)] → lp (fX3_bestFor_B17 aH vH vU vU_nights vD vD_now vU_things vU_cells vU_worths vH_kinds vG vH_sorts vH_next vH_sizes vH_width) fuel (y4_17, y5_17, y6_17, vW_cells_17, vW_inFront_17, vW_who_17, vW_4_17, vW_17) = some (zr, z_vW, z_vW_who, z_vW_cells, z_vW_inFront, z_aH0) → W p l e ({ frames := 5, cells := 0, slots := 0, locals := 131 } : Room) s m ([.ref aG, .ref aH, .ref aD, .int x3] : List Value).toArray below meth c H locs 0 0 Q (F0 m 17 ls []) := by
    intro fuel
    induction fuel with
    | zero => intro y4_17 y5_17 y6_17 vW_cells_17 vW_inFront_17 vW_who_17 vW_4_17 vW_17 H locs ls hP hD hS hl hok; exact (lp_0 hok).elim
    | succ fuel ih17 =>
      intro y4_17 y5_17 y6_17 vW_cells_17 vW_inFront_17 vW_who_17 vW_4_17 vW_17 H locs ls hP hD hS hl hok
      obtain ⟨y17, hok, hL17, hR17⟩ := lp_step hok
      unfold fX3_bestFor_B17 at hok
      try dsimp only at hok
      refine lv_iload hx hb dX3_bestFor_17 (lv_at hl 5 rfl) ?_
      refine lv_aload_n hx hb dX3_bestFor_19 rfl (lv_at hl 1 rfl) ?_
      refine va_get (D := D) (ci := 3) (v := .int (vH 2)) (C := RX4) (T := TX4) (N := 20) hx hb ht0 niX4 hown hK hP 0 rfl rfl 2 (by decide) (ht0 _ wd232) (fun _ h9 => h9) rfl dX3_bestFor_20 ?_
      refine lv_icmp_ge (tgt := 56) hx hb dX3_bestFor_23 (by decide) (fun c23 => ?_) (fun c23 => ?_)
      · have hok := k_pos c23 hok
        obtain ⟨e17, hok, he17⟩ := ex_some hok
        have hok := hok.trans (congrArg some (hL17 _ he17))
        refine lv_iload hx hb dX3_bestFor_56 (lv_at hl 4 rfl) ?_
        cases hok
        subst hQe; exact W.iret hx hb hr (fun t ht hW => ⟨⟨_, (), rfl, rfl, by rw [ht]; exact hP, va_K.moved hW.alike hK, hD⟩, hS.F ht⟩) hS.2.2 dX3_bestFor_58
      · have hok := k_neg c23 hok
        refine lv_iload hx hb dX3_bestFor_26 (lv_at hl 4 rfl) ?_
        refine lv_aload_n hx hb dX3_bestFor_28 rfl (lv_at hl 0 rfl) ?_
        refine lv_aload_n hx hb dX3_bestFor_29 rfl (lv_at hl 1 rfl) ?_
        refine lv_aload_n hx hb dX3_bestFor_30 rfl (lv_at hl 2 rfl) ?_
        refine lv_aload_n hx hb dX3_bestFor_31 rfl (lv_at hl 1 rfl) ?_
        refine va_get (D := D) (ci := 3) (v := .ref (qH 7)) (C := RX4) (T := TX4) (N := 20) hx hb ht0 niX4 hown hK hP 0 rfl rfl 7 (by decide) (ht0 _ wd214) (fun _ h9 => h9) rfl dX3_bestFor_32 ?_
        refine lv_iload hx hb dX3_bestFor_35 (lv_at hl 3 rfl) ?_
        refine lv_iload hx hb dX3_bestFor_37 (lv_at hl 5 rfl) ?_
        obtain ⟨r39, hc39, hok⟩ := k_bind hok
        refine kCi (wc := (wX7_ofRing cy (qH 7) qU vU vU_cells)) (wc2 := (wX7_ofRing cy (qH 7) qU vU vU_cells)) (wr := [(aH, oX4 vH qH), (qU 3, rI cy 6 vU_nights), (aD, oX1 vD qD), (qD 0, rI cy 9 vD_now), (qU 1, rI cy 6 vU_things), (qU 4, rI cy 6 vU_worths), (qH 14, rI cy 7 vH_kinds), (aG, oX3 vG qG), (qG 0, oX6 vW_17 qW vW_4_17), (qW 1, rI cy 36 vW_who_17), (qW 0, rI cy 7 vW_cells_17), (qH 8, rI cy 4 vH_sorts), (qH 10, rI cy 36 vH_next), (qW 2, rI cy 7 vW_inFront_17), (qH 15, rI cy 7 vH_sizes), (qH 11, rI cy 36 vH_width)]) (ws2 := (wX3_bestFor cy aG aH aD qH qU qD qG qW vW_4_17 vH vU vU_nights vD vD_now vU_things vU_cells vU_worths vH_kinds vG vW_17 vW_who_17 vW_cells_17 vH_sorts vH_next vW_inFront_17 vH_sizes vH_width)) (kRunV (As := [.int y4_17, .int y6_17]) (rest := [.ref aD, .ref aH, .ref aG, .int y5_17]) ⟨hx, hb, hml, hown, ht0⟩ (kX7_ofRing l D cy _ (qH 7) qU vU vU_cells y4_17 y6_17 r39 hc39 _ rfl) (cwV 2 ht0 (gV wd233 wd234 wd235 wd218 wd236) rfl rfl rfl (by decide +kernel) ⟨Nat.le_of_ble_eq_true rfl, Nat.le_of_ble_eq_true rfl⟩) hK hN hP hD [1, 6] rfl (by decide) 1 6 rfl rfl rfl hl.1 rfl (Nat.le_of_ble_eq_true rfl) dX3_bestFor_39 ⟨Nat.zero_le _, Nat.zero_le _⟩) hP hD hS hA [1, 6] [0, 2, 3, 4, 5, 7, 8, 9, 10, 11, 12, 13, 14, 15, 16, 17] rfl rfl (by decide) (by decide) [0, 16, 1, 2, 3, 4, 17, 5, 6, 7, 8, 9, 10, 11, 12, 13, 14, 15] (by decide) rfl rfl (fun H locs hP hD hS => ?_)
        refine lv_iload hx hb dX3_bestFor_42 (lv_at hl 5 rfl) ?_
        obtain ⟨⟨r44, vW_44, vW_who_44, vW_cells_44, vW_inFront_44, aH0_44⟩, hc44, hok⟩ := k_bind hok
        try dsimp only at hok
        refine kCi (wc := (wX3_bestInRing cy aG aH aD qH qU qD qG qW vW_4_17 vH vU vU_worths vD vD_now vH_kinds vU_nights vG vW_17 vW_who_17 vW_cells_17 vH_sorts vH_next vW_inFront_17 vH_sizes vH_width vU_things vU_cells)) (wc2 := (wX3_bestInRing cy aG aH aD qH qU qD qG qW aH0_44 vH vU vU_worths vD vD_now vH_kinds vU_nights vG vW_44 vW_who_44 vW_cells_44 vH_sorts vH_next vW_inFront_44 vH_sizes vH_width vU_things vU_cells)) (wr := []) (ws2 := (wX3_bestFor cy aG aH aD qH qU qD qG qW aH0_44 vH vU vU_nights vD vD_now vU_things vU_cells vU_worths vH_kinds vG vW_44 vW_who_44 vW_cells_44 vH_sorts vH_next vW_inFront_44 vH_sizes vH_width)) (kRunV (As := [.ref aH, .ref aD, .int r39, .int y6_17]) (rest := [.int y5_17]) ⟨hx, hb, hml, hown, ht0⟩ (kX3_bestInRing l D cy _ aG aH aD qH qU qD qG qW vW_4_17 vH vU vU_worths vD vD_now vH_kinds vU_nights vG vW_17 vW_who_17 vW_cells_17 vH_sorts vH_next vW_inFront_17 vH_sizes vH_width vU_things vU_cells r39 y6_17 r44 vW_44 vW_who_44 vW_cells_44 vW_inFront_44 aH0_44 hc44 _ rfl) (cwV 4 ht0 (gV wd237 wd238 wd239 wd178 wd240) rfl rfl rfl (by decide +kernel) ⟨Nat.le_of_ble_eq_true rfl, Nat.le_of_ble_eq_true rfl⟩) hK hN hP hD [0, 1, 7, 3, 4, 8, 2, 9, 10, 11, 12, 13, 14, 15, 16, 17, 5, 6] rfl (by decide) 9 2 rfl rfl rfl hl.1 rfl (Nat.le_of_ble_eq_true rfl) dX3_bestFor_44 ⟨Nat.zero_le _, Nat.zero_le _⟩) hP hD hS hA [0, 1, 7, 3, 4, 8, 2, 9, 10, 11, 12, 13, 14, 15, 16, 17, 5, 6] [] rfl rfl (by decide) (by decide) [0, 1, 6, 3, 4, 16, 17, 2, 5, 7, 8, 9, 10, 11, 12, 13, 14, 15] (by decide) rfl rfl (fun H locs hP hD hS => ?_)
        refine lv_ior hx hb dX3_bestFor_47 ?_
        refine lv_istore (lv' := [(5, .int (y5_17 ||| r44)), (0, .ref aG), (1, .ref aH), (2, .ref aD), (4, .int y4_17), (6, .int y6_17)]) hx hb dX3_bestFor_48 hl (by decide) rfl (fun ls hl => ?_)
        refine lv_iinc (v := (y6_17 + 1)) (lv' := [(6, .int (y6_17 + 1)), (5, .int (y5_17 ||| r44)), (0, .ref aG), (1, .ref aH), (2, .ref aD), (4, .int y4_17)]) hx hb dX3_bestFor_50 hl (k := 5) rfl (by first | rfl | decide) (by decide) rfl (fun ls hl => ?_)
        refine lv_goto (tgt := 17) hx hb dX3_bestFor_53 (by decide) ?_
        exact ih17 y4_17 (y5_17 ||| r44) (y6_17 + 1) vW_cells_44 vW_inFront_44 vW_who_44 aH0_44 vW_44 H locs ls hP hD hS (lv_sub hl [2, 3, 4, 5, 1, 0] rfl) (hR17 _ (Option.some.inj hok).symm)
  unfold fX3_bestFor at hok
  obtain ⟨H, hH⟩ : ∃ H, H = s.heap := ⟨_, rfl⟩
  obtain ⟨locs, hlc⟩ : ∃ x : List Loc, x = [] := ⟨_, rfl⟩
  have hP : va_P D vwCl (wX3_bestFor cy aG aH aD qH qU qD qG qW aH0 vH vU vU_nights vD vD_now vU_things vU_cells vU_worths vH_kinds vG vW vW_who vW_cells vH_sorts vH_next vW_inFront vH_sizes vH_width) H := by rw [hH]; exact hP
  have hS : va_S A s.heap H locs := by rw [hH, hlc]; exact hS
  rw [show W p l e _ s m _ below meth c s.heap [] = W p l e _ s m _ below meth c H locs from by rw [hH, hlc]]
  refine lv_aload_n hx hb dX3_bestFor_0 rfl (lv_at hl 1 rfl) ?_
  refine va_get (D := D) (ci := 3) (v := .ref (qH 7)) (C := RX4) (T := TX4) (N := 20) hx hb ht0 niX4 hown hK hP 0 rfl rfl 7 (by decide) (ht0 _ wd214) (fun _ h9 => h9) rfl dX3_bestFor_1 ?_
  refine lv_aload_n hx hb dX3_bestFor_4 rfl (lv_at hl 2 rfl) ?_
  refine lv_iload_n hx hb dX3_bestFor_5 rfl (lv_at hl 3 rfl) ?_
  obtain ⟨r6, hc6, hok⟩ := k_bind hok
  refine kCi (wc := (wX7_withinReach cy (qH 7) aD qU qD vU vU_nights vD vD_now vU_things vU_cells)) (wc2 := (wX7_withinReach cy (qH 7) aD qU qD vU vU_nights vD vD_now vU_things vU_cells)) (wr := [(aH, oX4 vH qH), (qU 4, rI cy 6 vU_worths), (qH 14, rI cy 7 vH_kinds), (aG, oX3 vG qG), (qG 0, oX6 vW qW aH0), (qW 1, rI cy 36 vW_who), (qW 0, rI cy 7 vW_cells), (qH 8, rI cy 4 vH_sorts), (qH 10, rI cy 36 vH_next), (qW 2, rI cy 7 vW_inFront), (qH 15, rI cy 7 vH_sizes), (qH 11, rI cy 36 vH_width)]) (ws2 := (wX3_bestFor cy aG aH aD qH qU qD qG qW aH0 vH vU vU_nights vD vD_now vU_things vU_cells vU_worths vH_kinds vG vW vW_who vW_cells vH_sorts vH_next vW_inFront vH_sizes vH_width)) (kRunV (As := [.ref aD, .int x3]) (rest := []) ⟨hx, hb, hml, hown, ht0⟩ (kX7_withinReach l D cy _ (qH 7) aD qU qD vU vU_nights vD vD_now vU_things vU_cells x3 r6 hc6 _ rfl) (cwV 2 ht0 (gV wd241 wd242 wd243 wd218 wd244) rfl rfl rfl (by decide +kernel) ⟨Nat.le_of_ble_eq_true rfl, Nat.le_of_ble_eq_true rfl⟩) hK hN hP hD [1, 2, 3, 4, 5, 6] rfl (by decide) 1 6 rfl rfl rfl hl.1 rfl (Nat.le_of_ble_eq_true rfl) dX3_bestFor_6 ⟨Nat.zero_le _, Nat.zero_le _⟩) hP hD hS hA [1, 2, 3, 4, 5, 6] [0, 7, 8, 9, 10, 11, 12, 13, 14, 15, 16, 17] rfl rfl (by decide) (by decide) [0, 12, 13, 14, 15, 16, 17, 1, 2, 3, 4, 5, 6, 7, 8, 9, 10, 11] (by decide) rfl rfl (fun H locs hP hD hS => ?_)
  refine lv_istore (lv' := [(4, .int r6), (0, .ref aG), (1, .ref aH), (2, .ref aD), (3, .int x3)]) hx hb dX3_bestFor_9 hl (by decide) rfl (fun ls hl => ?_)
  refine lv_iconst (v := 0) hx hb dX3_bestFor_11 (by decide) ?_
  refine lv_istore (lv' := [(5, .int 0), (4, .int r6), (0, .ref aG), (1, .ref aH), (2, .ref aD), (3, .int x3)]) hx hb dX3_bestFor_12 hl (by decide) rfl (fun ls hl => ?_)
  refine lv_iconst (v := 0) hx hb dX3_bestFor_14 (by decide) ?_
  refine lv_istore (lv' := [(6, .int 0), (5, .int 0), (4, .int r6), (0, .ref aG), (1, .ref aH), (2, .ref aD), (3, .int x3)]) hx hb dX3_bestFor_15 hl (by decide) rfl (fun ls hl => ?_)
  exact L17 5000 r6 (0 : Int32) (0 : Int32) vW_cells vW_inFront vW_who aH0 vW H locs ls hP hD hS (lv_sub hl [3, 4, 5, 2, 1, 0] rfl) hok
def wsX3_paidWithin : List Cond := .code yX3_paidWithin cX3_paidWithin 5 (some .int) :: W0
abbrev wX3_paidWithin (cy : Nat → ClassId) (aG : Nat) (aH : Nat) (aD : Nat) (qH : Nat → Nat) (qU : Nat → Nat) (qD : Nat → Nat) (qG : Nat → Nat) (qW : Nat → Nat) (aH0 : Nat) (vH : Nat → Int32) (vU : Nat → Int32) (vU_nights : Nat → Int32) (vD : Nat → Int32) (vD_now : Nat → Int32) (vU_things : Nat → Int32) (vU_cells : Nat → Int32) (vG : Nat → Int32) (vW : Nat → Int32) (vW_who : Nat → Int32) (vH_kinds : Nat → Int32) (vW_cells : Nat → Int32) (vH_sorts : Nat → Int32) (vH_next : Nat → Int32) (vW_inFront : Nat → Int32) (vH_sizes : Nat → Int32) (vH_width : Nat → Int32) : va_W := [(aH, oX4 vH qH), (qH 7, oX7 vU qU), (qU 3, rI cy 6 vU_nights), (aD, oX1 vD qD), (qD 0, rI cy 9 vD_now), (qU 1, rI cy 6 vU_things), (qU 2, rI cy 6 vU_cells), (aG, oX3 vG qG), (qG 0, oX6 vW qW aH0), (qW 1, rI cy 36 vW_who), (qH 14, rI cy 7 vH_kinds), (qW 0, rI cy 7 vW_cells), (qH 8, rI cy 4 vH_sorts), (qH 10, rI cy 36 vH_next), (qW 2, rI cy 7 vW_inFront), (qH 15, rI cy 7 vH_sizes), (qH 11, rI cy 36 vH_width)]
set_option maxHeartbeats 4000000 in
set_option maxRecDepth 100000 in
theorem kX3_paidWithin (l : Launch) (D : va_G) (cy : Nat → ClassId) (sz : Nat) (aG : Nat) (aH : Nat) (aD : Nat) (qH : Nat → Nat) (qU : Nat → Nat) (qD : Nat → Nat) (qG : Nat → Nat) (qW : Nat → Nat) (aH0 : Nat) (vH : Nat → Int32) (vU : Nat → Int32) (vU_nights : Nat → Int32) (vD : Nat → Int32) (vD_now : Nat → Int32) (vU_things : Nat → Int32) (vU_cells : Nat → Int32) (vG : Nat → Int32) (vW : Nat → Int32) (vW_who : Nat → Int32) (vH_kinds : Nat → Int32) (vW_cells : Nat → Int32) (vH_sorts : Nat → Int32) (vH_next : Nat → Int32) (vW_inFront : Nat → Int32) (vH_sizes : Nat → Int32) (vH_width : Nat → Int32) (x3 : Int32) (x4 : Int32) (zr : Int32) (z_vW : Nat → Int32) (z_vW_who : Nat → Int32) (z_vW_cells : Nat → Int32) (z_vW_inFront : Nat → Int32) (hok : fX3_paidWithin vH vU vU_nights vD vD_now vU_things vU_cells vG vW vW_who vH_kinds vW_cells vH_sorts vH_next vW_inFront vH_sizes vH_width x3 x4 = some (zr, z_vW, z_vW_who, z_vW_cells, z_vW_inFront)) (A : Nat → Prop) (hAe : va_A (wX3_paidWithin cy aG aH aD qH qU qD qG qW aH0 vH vU vU_nights vD vD_now vU_things vU_cells vG vW vW_who vH_kinds vW_cells vH_sorts vH_next vW_inFront vH_sizes vH_width) sz = A) : Met l yX3_paidWithin wsX3_paidWithin ({ frames := 4, cells := 0, slots := 0, locals := 100 } : Room) (kPre D cy [.ref aG, .ref aH, .ref aD, .int x3, .int x4] (wX3_paidWithin cy aG aH aD qH qU qD qG qW aH0 vH vU vU_nights vD vD_now vU_things vU_cells vG vW vW_who vH_kinds vW_cells vH_sorts vH_next vW_inFront vH_sizes vH_width) sz) (kQi D cy zr A (wX3_paidWithin cy aG aH aD qH qU qD qG qW aH vH vU vU_nights vD vD_now vU_things vU_cells vG z_vW z_vW_who vH_kinds z_vW_cells vH_sorts vH_next z_vW_inFront vH_sizes vH_width)) 0 0 A := by
  refine Met.ofW (cc := cX3_paidWithin) (maxL := 5) (ret := (some .int)) (by decide) rfl ?_
  intro p e s m args below meth c s₁ B hml hv
  obtain ⟨rfl, hsz, hP, hK, hD0, hN⟩ := hv
  have hx := B.exec
  have hb := B.bytes
  have hr := B.returns
  have ht0 : ∀ w ∈ W0, w.before _ s = true := fun w h => atoms_spec (ws := wsX3_paidWithin) B.pre w (List.mem_cons_of_mem _ h)
  have hown : s.vm.findClass RX3 = some m.cls := findClass_of_methodNamed B.named
  have hlocks := B.notSynchronized
  subst hsz
  have hD : va_D A (wX3_paidWithin cy aG aH aD qH qU qD qG qW aH0 vH vU vU_nights vD vD_now vU_things vU_cells vG vW vW_who vH_kinds vW_cells vH_sorts vH_next vW_inFront vH_sizes vH_width) := by rw [← hAe]; exact hD0.self
  have hA : ∀ q : Nat, s.heap.size ≤ q → A q := fun q h => by rw [← hAe]; exact Or.inr h
  have hS : va_S A s.heap s.heap [] := va_S.rf
  have hl := lv_entry ([.ref aG, .ref aH, .ref aD, .int x3, .int x4]) (n := 5) (Nat.le_of_ble_eq_true rfl)
  rw [lg_entry_eq]
  generalize (lg_sl ([.ref aG, .ref aH, .ref aD, .int x3, .int x4]) ++ List.replicate (5 - (lg_sl ([.ref aG, .ref aH, .ref aD, .int x3, .int x4])).length) Slot.unset).toArray = ls at hl ⊢
  have hl : lv_has ls 5 [(0, .ref aG), (1, .ref aH), (2, .ref aD), (3, .int x3), (4, .int x4)] := hl
  unfold fX3_paidWithin at hok
  obtain ⟨H, hH⟩ : ∃ H, H = s.heap := ⟨_, rfl⟩
  obtain ⟨locs, hlc⟩ : ∃ x : List Loc, x = [] := ⟨_, rfl⟩
  have hP : va_P D vwCl (wX3_paidWithin cy aG aH aD qH qU qD qG qW aH0 vH vU vU_nights vD vD_now vU_things vU_cells vG vW vW_who vH_kinds vW_cells vH_sorts vH_next vW_inFront vH_sizes vH_width) H := by rw [hH]; exact hP
  have hS : va_S A s.heap H locs := by rw [hH, hlc]; exact hS
  rw [show W p l e _ s m _ below meth c s.heap [] = W p l e _ s m _ below meth c H locs from by rw [hH, hlc]]
  refine lv_aload_n hx hb dX3_paidWithin_0 rfl (lv_at hl 0 rfl) ?_
  refine lv_aload_n hx hb dX3_paidWithin_1 rfl (lv_at hl 1 rfl) ?_
  refine va_get (D := D) (ci := 3) (v := .ref (qH 7)) (C := RX4) (T := TX4) (N := 20) hx hb ht0 niX4 hown hK hP 0 rfl rfl 7 (by decide) (ht0 _ wd214) (fun _ h9 => h9) rfl dX3_paidWithin_2 ?_
  refine lv_aload_n hx hb dX3_paidWithin_5 rfl (lv_at hl 2 rfl) ?_
  refine lv_iload hx hb dX3_paidWithin_6 (lv_at hl 4 rfl) ?_
  obtain ⟨r8, hc8, hok⟩ := k_bind hok
  refine kCi (wc := (wX7_withinReach cy (qH 7) aD qU qD vU vU_nights vD vD_now vU_things vU_cells)) (wc2 := (wX7_withinReach cy (qH 7) aD qU qD vU vU_nights vD vD_now vU_things vU_cells)) (wr := [(aH, oX4 vH qH), (aG, oX3 vG qG), (qG 0, oX6 vW qW aH0), (qW 1, rI cy 36 vW_who), (qH 14, rI cy 7 vH_kinds), (qW 0, rI cy 7 vW_cells), (qH 8, rI cy 4 vH_sorts), (qH 10, rI cy 36 vH_next), (qW 2, rI cy 7 vW_inFront), (qH 15, rI cy 7 vH_sizes), (qH 11, rI cy 36 vH_width)]) (ws2 := (wX3_paidWithin cy aG aH aD qH qU qD qG qW aH0 vH vU vU_nights vD vD_now vU_things vU_cells vG vW vW_who vH_kinds vW_cells vH_sorts vH_next vW_inFront vH_sizes vH_width)) (kRunV (As := [.ref aD, .int x4]) (rest := [.ref aG]) ⟨hx, hb, hml, hown, ht0⟩ (kX7_withinReach l D cy _ (qH 7) aD qU qD vU vU_nights vD vD_now vU_things vU_cells x4 r8 hc8 _ rfl) (cwV 2 ht0 (gV wd241 wd242 wd243 wd218 wd244) rfl rfl rfl (by decide +kernel) ⟨Nat.le_of_ble_eq_true rfl, Nat.le_of_ble_eq_true rfl⟩) hK hN hP hD [1, 2, 3, 4, 5, 6] rfl (by decide) 1 6 rfl rfl rfl hl.1 rfl (Nat.le_of_ble_eq_true rfl) dX3_paidWithin_8 ⟨Nat.zero_le _, Nat.zero_le _⟩) hP hD hS hA [1, 2, 3, 4, 5, 6] [0, 7, 8, 9, 10, 11, 12, 13, 14, 15, 16] rfl rfl (by decide) (by decide) [0, 11, 12, 13, 14, 15, 16, 1, 2, 3, 4, 5, 6, 7, 8, 9, 10] (by decide) rfl rfl (fun H locs hP hD hS => ?_)
  refine lv_aload_n hx hb dX3_paidWithin_11 rfl (lv_at hl 1 rfl) ?_
  refine lv_aload_n hx hb dX3_paidWithin_12 rfl (lv_at hl 2 rfl) ?_
  refine lv_iload_n hx hb dX3_paidWithin_13 rfl (lv_at hl 3 rfl) ?_
  obtain ⟨⟨r14, vW_14, vW_who_14, vW_cells_14, vW_inFront_14⟩, hc14, hok⟩ := k_bind hok
  try dsimp only at hok
  refine kCi (wc := (wX3_paidOf cy aG aH aD qH qU qG qW aH0 qD vH vU vU_nights vG vW vD vD_now vW_who vH_kinds vW_cells vH_sorts vH_next vW_inFront vH_sizes vH_width vU_things vU_cells)) (wc2 := (wX3_paidOf cy aG aH aD qH qU qG qW aH qD vH vU vU_nights vG vW_14 vD vD_now vW_who_14 vH_kinds vW_cells_14 vH_sorts vH_next vW_inFront_14 vH_sizes vH_width vU_things vU_cells)) (wr := []) (ws2 := (wX3_paidWithin cy aG aH aD qH qU qD qG qW aH vH vU vU_nights vD vD_now vU_things vU_cells vG vW_14 vW_who_14 vH_kinds vW_cells_14 vH_sorts vH_next vW_inFront_14 vH_sizes vH_width)) (kRunV (As := [.int r8, .ref aH, .ref aD, .int x3]) (rest := []) ⟨hx, hb, hml, hown, ht0⟩ (kX3_paidOf l D cy _ aG aH aD qH qU qG qW aH0 qD vH vU vU_nights vG vW vD vD_now vW_who vH_kinds vW_cells vH_sorts vH_next vW_inFront vH_sizes vH_width vU_things vU_cells r8 x3 r14 vW_14 vW_who_14 vW_cells_14 vW_inFront_14 hc14 _ rfl) (cwV 4 ht0 (gV wd224 wd225 wd226 wd178 wd227) rfl rfl rfl (by decide +kernel) ⟨Nat.le_of_ble_eq_true rfl, Nat.le_of_ble_eq_true rfl⟩) hK hN hP hD [0, 1, 2, 7, 8, 3, 4, 9, 10, 11, 12, 13, 14, 15, 16, 5, 6] rfl (by decide) 7 2 rfl rfl rfl hl.1 rfl (Nat.le_of_ble_eq_true rfl) dX3_paidWithin_14 ⟨Nat.zero_le _, Nat.zero_le _⟩) hP hD hS hA [0, 1, 2, 7, 8, 3, 4, 9, 10, 11, 12, 13, 14, 15, 16, 5, 6] [] rfl rfl (by decide) (by decide) [0, 1, 2, 5, 6, 15, 16, 3, 4, 7, 8, 9, 10, 11, 12, 13, 14] (by decide) rfl rfl (fun H locs hP hD hS => ?_)
  cases hok
  exact W.iret hx hb hr (fun t ht hW => ⟨⟨_, (), rfl, rfl, by rw [ht]; exact hP, va_K.moved hW.alike hK, hD⟩, hS.F ht⟩) hS.2.2 dX3_paidWithin_17
def wsX7_clear : List Cond := .code yX7_clear cX7_clear 1 none :: W0
abbrev wX7_clear (cy : Nat → ClassId) (aU : Nat) (qU : Nat → Nat) (vU : Nat → Int32) : va_W := [(aU, oX7 vU qU)]
set_option maxHeartbeats 4000000 in
set_option maxRecDepth 100000 in
theorem kX7_clear (l : Launch) (D : va_G) (cy : Nat → ClassId) (sz : Nat) (aU : Nat) (qU : Nat → Nat) (vU : Nat → Int32) (z_vU : Nat → Int32) (hok : fX7_clear vU = some z_vU) (A : Nat → Prop) (hAe : va_A (wX7_clear cy aU qU vU) sz = A) : Met l yX7_clear wsX7_clear ({ frames := 0, cells := 0, slots := 0, locals := 0 } : Room) (kPre D cy [.ref aU] (wX7_clear cy aU qU vU) sz) (kQv D cy A (wX7_clear cy aU qU z_vU)) 0 0 A := by
  refine Met.ofW (cc := cX7_clear) (maxL := 1) (ret := none) (by decide) rfl ?_
  intro p e s m args below meth c s₁ B hml hv
  obtain ⟨rfl, hsz, hP, hK, hD0, hN⟩ := hv
  have hx := B.exec
  have hb := B.bytes
  have hr := B.returns
  have ht0 : ∀ w ∈ W0, w.before _ s = true := fun w h => atoms_spec (ws := wsX7_clear) B.pre w (List.mem_cons_of_mem _ h)
  have hown : s.vm.findClass RX7 = some m.cls := findClass_of_methodNamed B.named
  have hlocks := B.notSynchronized
  subst hsz
  have hD : va_D A (wX7_clear cy aU qU vU) := by rw [← hAe]; exact hD0.self
  have hA : ∀ q : Nat, s.heap.size ≤ q → A q := fun q h => by rw [← hAe]; exact Or.inr h
  have hS : va_S A s.heap s.heap [] := va_S.rf
  have hl := lv_entry ([.ref aU]) (n := 1) (Nat.le_of_ble_eq_true rfl)
  rw [lg_entry_eq]
  generalize (lg_sl ([.ref aU]) ++ List.replicate (1 - (lg_sl ([.ref aU])).length) Slot.unset).toArray = ls at hl ⊢
  have hl : lv_has ls 1 [(0, .ref aU)] := hl
  unfold fX7_clear at hok
  obtain ⟨H, hH⟩ : ∃ H, H = s.heap := ⟨_, rfl⟩
  obtain ⟨locs, hlc⟩ : ∃ x : List Loc, x = [] := ⟨_, rfl⟩
  have hP : va_P D vwCl (wX7_clear cy aU qU vU) H := by rw [hH]; exact hP
  have hS : va_S A s.heap H locs := by rw [hH, hlc]; exact hS
  rw [show W p l e _ s m _ below meth c s.heap [] = W p l e _ s m _ below meth c H locs from by rw [hH, hlc]]
  refine lv_aload_n hx hb dX7_clear_0 rfl (lv_at hl 0 rfl) ?_
  refine lv_iconst (v := 0) hx hb dX7_clear_1 (by decide) ?_
  refine va_put (D := D) (ci := 6) (v := .int 0) (ty := .int) (C := RX7) (T := TX7) (N := 5) hx hb ht0 niX7 tyX7 tyX7_ok nmX7 hown hK hP hD hS 0 rfl rfl 0 (by decide) (ht0 _ wd202) (fun _ h9 => h9) rfl (by decide +kernel) rfl rfl (Nat.le_of_ble_eq_true rfl) dX7_clear_2 (fun H locs hP hD hS => ?_)
  have hP : va_P D vwCl (wX7_clear cy aU qU (upd vU 0 (0 : Int32))) H := hP
  have hD : va_D A (wX7_clear cy aU qU (upd vU 0 (0 : Int32))) := hD
  cases hok
  exact W.vret hx hb hr (fun t ht hW => ⟨⟨(), rfl, trivial, by rw [ht]; exact hP, va_K.moved hW.alike hK, hD⟩, hS.F ht⟩) hS.2.2 dX7_clear_5
def wsX4_clear : List Cond := .code yX4_clear cX4_clear 1 none :: W0
abbrev wX4_clear (cy : Nat → ClassId) (aH : Nat) (qH : Nat → Nat) (qU : Nat → Nat) (vH : Nat → Int32) (vU : Nat → Int32) (vH_next : Nat → Int32) (vH_width : Nat → Int32) : va_W := [(aH, oX4 vH qH), (qH 7, oX7 vU qU), (qH 10, rI cy 36 vH_next), (qH 11, rI cy 36 vH_width)]
set_option maxHeartbeats 4000000 in
set_option maxRecDepth 100000 in
theorem kX4_clear (l : Launch) (D : va_G) (cy : Nat → ClassId) (sz : Nat) (aH : Nat) (qH : Nat → Nat) (qU : Nat → Nat) (vH : Nat → Int32) (vU : Nat → Int32) (vH_next : Nat → Int32) (vH_width : Nat → Int32) (z_vH : Nat → Int32) (z_vU : Nat → Int32) (z_vH_next : Nat → Int32) (z_vH_width : Nat → Int32) (hok : fX4_clear vH vU vH_next vH_width = some (z_vH, z_vU, z_vH_next, z_vH_width)) (A : Nat → Prop) (hAe : va_A (wX4_clear cy aH qH qU vH vU vH_next vH_width) sz = A) : Met l yX4_clear wsX4_clear ({ frames := 1, cells := 0, slots := 0, locals := 23 } : Room) (kPre D cy [.ref aH] (wX4_clear cy aH qH qU vH vU vH_next vH_width) sz) (kQv D cy A (wX4_clear cy aH qH qU z_vH z_vU z_vH_next z_vH_width)) 0 0 A := by
  refine Met.ofW (cc := cX4_clear) (maxL := 1) (ret := none) (by decide) rfl ?_
  intro p e s m args below meth c s₁ B hml hv
  obtain ⟨rfl, hsz, hP, hK, hD0, hN⟩ := hv
  have hx := B.exec
  have hb := B.bytes
  have hr := B.returns
  have ht0 : ∀ w ∈ W0, w.before _ s = true := fun w h => atoms_spec (ws := wsX4_clear) B.pre w (List.mem_cons_of_mem _ h)
  have hown : s.vm.findClass RX4 = some m.cls := findClass_of_methodNamed B.named
  have hlocks := B.notSynchronized
  subst hsz
  have hD : va_D A (wX4_clear cy aH qH qU vH vU vH_next vH_width) := by rw [← hAe]; exact hD0.self
  have hA : ∀ q : Nat, s.heap.size ≤ q → A q := fun q h => by rw [← hAe]; exact Or.inr h
  have hS : va_S A s.heap s.heap [] := va_S.rf
  have hl := lv_entry ([.ref aH]) (n := 1) (Nat.le_of_ble_eq_true rfl)
  rw [lg_entry_eq]
  generalize (lg_sl ([.ref aH]) ++ List.replicate (1 - (lg_sl ([.ref aH])).length) Slot.unset).toArray = ls at hl ⊢
  have hl : lv_has ls 1 [(0, .ref aH)] := hl
  unfold fX4_clear at hok
  obtain ⟨H, hH⟩ : ∃ H, H = s.heap := ⟨_, rfl⟩
  obtain ⟨locs, hlc⟩ : ∃ x : List Loc, x = [] := ⟨_, rfl⟩
  have hP : va_P D vwCl (wX4_clear cy aH qH qU vH vU vH_next vH_width) H := by rw [hH]; exact hP
  have hS : va_S A s.heap H locs := by rw [hH, hlc]; exact hS
  rw [show W p l e _ s m _ below meth c s.heap [] = W p l e _ s m _ below meth c H locs from by rw [hH, hlc]]
  refine lv_aload_n hx hb dX4_clear_0 rfl (lv_at hl 0 rfl) ?_
  refine lv_iconst (v := 0) hx hb dX4_clear_1 (by decide) ?_
  refine va_put (D := D) (ci := 3) (v := .int 0) (ty := .int) (C := RX4) (T := TX4) (N := 20) hx hb ht0 niX4 tyX4 tyX4_ok nmX4 hown hK hP hD hS 0 rfl rfl 0 (by decide) (ht0 _ wd245) (fun _ h9 => h9) rfl (by decide +kernel) rfl rfl (Nat.le_of_ble_eq_true rfl) dX4_clear_2 (fun H locs hP hD hS => ?_)
  have hP : va_P D vwCl (wX4_clear cy aH qH qU (upd vH 0 (0 : Int32)) vU vH_next vH_width) H := hP
  have hD : va_D A (wX4_clear cy aH qH qU (upd vH 0 (0 : Int32)) vU vH_next vH_width) := hD
  refine lv_aload_n hx hb dX4_clear_5 rfl (lv_at hl 0 rfl) ?_
  refine lv_iconst (v := 0) hx hb dX4_clear_6 (by decide) ?_
  refine va_put (D := D) (ci := 3) (v := .int 0) (ty := .int) (C := RX4) (T := TX4) (N := 20) hx hb ht0 niX4 tyX4 tyX4_ok nmX4 hown hK hP hD hS 0 rfl rfl 1 (by decide) (ht0 _ wd246) (fun _ h9 => h9) rfl (by decide +kernel) rfl rfl (Nat.le_of_ble_eq_true rfl) dX4_clear_7 (fun H locs hP hD hS => ?_)
  have hP : va_P D vwCl (wX4_clear cy aH qH qU (upd (upd vH 0 (0 : Int32)) 1 (0 : Int32)) vU vH_next vH_width) H := hP
  have hD : va_D A (wX4_clear cy aH qH qU (upd (upd vH 0 (0 : Int32)) 1 (0 : Int32)) vU vH_next vH_width) := hD
  refine lv_aload_n hx hb dX4_clear_10 rfl (lv_at hl 0 rfl) ?_
  refine lv_iconst (v := 0) hx hb dX4_clear_11 (by decide) ?_
  refine va_put (D := D) (ci := 3) (v := .int 0) (ty := .int) (C := RX4) (T := TX4) (N := 20) hx hb ht0 niX4 tyX4 tyX4_ok nmX4 hown hK hP hD hS 0 rfl rfl 2 (by decide) (ht0 _ wd93) (fun _ h9 => h9) rfl (by decide +kernel) rfl rfl (Nat.le_of_ble_eq_true rfl) dX4_clear_12 (fun H locs hP hD hS => ?_)
  have hP : va_P D vwCl (wX4_clear cy aH qH qU (upd (upd (upd vH 0 (0 : Int32)) 1 (0 : Int32)) 2 (0 : Int32)) vU vH_next vH_width) H := hP
  have hD : va_D A (wX4_clear cy aH qH qU (upd (upd (upd vH 0 (0 : Int32)) 1 (0 : Int32)) 2 (0 : Int32)) vU vH_next vH_width) := hD
  refine lv_aload_n hx hb dX4_clear_15 rfl (lv_at hl 0 rfl) ?_
  refine lv_iconst (v := 0) hx hb dX4_clear_16 (by decide) ?_
  refine va_put (D := D) (ci := 3) (v := .int 0) (ty := .int) (C := RX4) (T := TX4) (N := 20) hx hb ht0 niX4 tyX4 tyX4_ok nmX4 hown hK hP hD hS 0 rfl rfl 3 (by decide) (ht0 _ wd247) (fun _ h9 => h9) rfl (by decide +kernel) rfl rfl (Nat.le_of_ble_eq_true rfl) dX4_clear_17 (fun H locs hP hD hS => ?_)
  have hP : va_P D vwCl (wX4_clear cy aH qH qU (upd (upd (upd (upd vH 0 (0 : Int32)) 1 (0 : Int32)) 2 (0 : Int32)) 3 (0 : Int32)) vU vH_next vH_width) H := hP
  have hD : va_D A (wX4_clear cy aH qH qU (upd (upd (upd (upd vH 0 (0 : Int32)) 1 (0 : Int32)) 2 (0 : Int32)) 3 (0 : Int32)) vU vH_next vH_width) := hD
  refine lv_aload_n hx hb dX4_clear_20 rfl (lv_at hl 0 rfl) ?_
  refine lv_iconst (v := 0) hx hb dX4_clear_21 (by decide) ?_
  refine va_put (D := D) (ci := 3) (v := .int 0) (ty := .int) (C := RX4) (T := TX4) (N := 20) hx hb ht0 niX4 tyX4 tyX4_ok nmX4 hown hK hP hD hS 0 rfl rfl 4 (by decide) (ht0 _ wd161) (fun _ h9 => h9) rfl (by decide +kernel) rfl rfl (Nat.le_of_ble_eq_true rfl) dX4_clear_22 (fun H locs hP hD hS => ?_)
  have hP : va_P D vwCl (wX4_clear cy aH qH qU (upd (upd (upd (upd (upd vH 0 (0 : Int32)) 1 (0 : Int32)) 2 (0 : Int32)) 3 (0 : Int32)) 4 (0 : Int32)) vU vH_next vH_width) H := hP
  have hD : va_D A (wX4_clear cy aH qH qU (upd (upd (upd (upd (upd vH 0 (0 : Int32)) 1 (0 : Int32)) 2 (0 : Int32)) 3 (0 : Int32)) 4 (0 : Int32)) vU vH_next vH_width) := hD
  refine lv_aload_n hx hb dX4_clear_25 rfl (lv_at hl 0 rfl) ?_
  refine lv_iconst (v := 0) hx hb dX4_clear_26 (by decide) ?_
  refine va_put (D := D) (ci := 3) (v := .int 0) (ty := .int) (C := RX4) (T := TX4) (N := 20) hx hb ht0 niX4 tyX4 tyX4_ok nmX4 hown hK hP hD hS 0 rfl rfl 5 (by decide) (ht0 _ wd248) (fun _ h9 => h9) rfl (by decide +kernel) rfl rfl (Nat.le_of_ble_eq_true rfl) dX4_clear_27 (fun H locs hP hD hS => ?_)
  have hP : va_P D vwCl (wX4_clear cy aH qH qU (upd (upd (upd (upd (upd (upd vH 0 (0 : Int32)) 1 (0 : Int32)) 2 (0 : Int32)) 3 (0 : Int32)) 4 (0 : Int32)) 5 (0 : Int32)) vU vH_next vH_width) H := hP
  have hD : va_D A (wX4_clear cy aH qH qU (upd (upd (upd (upd (upd (upd vH 0 (0 : Int32)) 1 (0 : Int32)) 2 (0 : Int32)) 3 (0 : Int32)) 4 (0 : Int32)) 5 (0 : Int32)) vU vH_next vH_width) := hD
  refine lv_aload_n hx hb dX4_clear_30 rfl (lv_at hl 0 rfl) ?_
  refine lv_iconst (v := 0) hx hb dX4_clear_31 (by decide) ?_
  refine va_put (D := D) (ci := 3) (v := .int 0) (ty := .int) (C := RX4) (T := TX4) (N := 20) hx hb ht0 niX4 tyX4 tyX4_ok nmX4 hown hK hP hD hS 0 rfl rfl 6 (by decide) (ht0 _ wd1) (fun _ h9 => h9) rfl (by decide +kernel) rfl rfl (Nat.le_of_ble_eq_true rfl) dX4_clear_32 (fun H locs hP hD hS => ?_)
  have hP : va_P D vwCl (wX4_clear cy aH qH qU (upd (upd (upd (upd (upd (upd (upd vH 0 (0 : Int32)) 1 (0 : Int32)) 2 (0 : Int32)) 3 (0 : Int32)) 4 (0 : Int32)) 5 (0 : Int32)) 6 (0 : Int32)) vU vH_next vH_width) H := hP
  have hD : va_D A (wX4_clear cy aH qH qU (upd (upd (upd (upd (upd (upd (upd vH 0 (0 : Int32)) 1 (0 : Int32)) 2 (0 : Int32)) 3 (0 : Int32)) 4 (0 : Int32)) 5 (0 : Int32)) 6 (0 : Int32)) vU vH_next vH_width) := hD
  refine lv_aload_n hx hb dX4_clear_35 rfl (lv_at hl 0 rfl) ?_
  refine va_get (D := D) (ci := 3) (v := .ref (qH 7)) (C := RX4) (T := TX4) (N := 20) hx hb ht0 niX4 hown hK hP 0 rfl rfl 7 (by decide) (ht0 _ wd249) (fun _ h9 => h9) rfl dX4_clear_36 ?_
  obtain ⟨vU_39, hc39, hok⟩ := k_bind hok
  refine kCv (wc := (wX7_clear cy (qH 7) qU vU)) (wc2 := (wX7_clear cy (qH 7) qU vU_39)) (wr := [(aH, oX4 (upd (upd (upd (upd (upd (upd (upd vH 0 (0 : Int32)) 1 (0 : Int32)) 2 (0 : Int32)) 3 (0 : Int32)) 4 (0 : Int32)) 5 (0 : Int32)) 6 (0 : Int32)) qH), (qH 10, rI cy 36 vH_next), (qH 11, rI cy 36 vH_width)]) (ws2 := (wX4_clear cy aH qH qU (upd (upd (upd (upd (upd (upd (upd vH 0 (0 : Int32)) 1 (0 : Int32)) 2 (0 : Int32)) 3 (0 : Int32)) 4 (0 : Int32)) 5 (0 : Int32)) 6 (0 : Int32)) vU_39 vH_next vH_width)) (kRunV (As := []) (rest := []) ⟨hx, hb, hml, hown, ht0⟩ (kX7_clear l D cy _ (qH 7) qU vU vU_39 hc39 _ rfl) (cwV 0 ht0 (gV wd250 wd251 wd252 wd218 wd253) rfl rfl rfl (by decide +kernel) ⟨Nat.le_of_ble_eq_true rfl, Nat.le_of_ble_eq_true rfl⟩) hK hN hP hD [1] rfl (by decide) 1 6 rfl rfl rfl hl.1 rfl (Nat.le_of_ble_eq_true rfl) dX4_clear_39 ⟨Nat.zero_le _, Nat.zero_le _⟩) hP hD hS hA [1] [0, 2, 3] rfl rfl (by decide) (by decide) [0, 3, 1, 2] (by decide) rfl rfl (fun H locs hP hD hS => ?_)
  refine lv_aload_n hx hb dX4_clear_42 rfl (lv_at hl 0 rfl) ?_
  refine va_get (D := D) (ci := 3) (v := .ref (qH 10)) (C := RX4) (T := TX4) (N := 20) hx hb ht0 niX4 hown hK hP 0 rfl rfl 10 (by decide) (ht0 _ wd127) (fun _ h9 => h9) rfl dX4_clear_43 ?_
  refine lv_iconst (v := 0) hx hb dX4_clear_46 (by decide) ?_
  obtain ⟨p0_47, hc47, hok⟩ := k_bind hok
  refine kCv (wc := (wJ7_fill_53178 cy (qH 10) 36 vH_next)) (wc2 := (wJ7_fill_53178 cy (qH 10) 36 p0_47)) (wr := [(aH, oX4 (upd (upd (upd (upd (upd (upd (upd vH 0 (0 : Int32)) 1 (0 : Int32)) 2 (0 : Int32)) 3 (0 : Int32)) 4 (0 : Int32)) 5 (0 : Int32)) 6 (0 : Int32)) qH), (qH 7, oX7 vU_39 qU), (qH 11, rI cy 36 vH_width)]) (ws2 := (wX4_clear cy aH qH qU (upd (upd (upd (upd (upd (upd (upd vH 0 (0 : Int32)) 1 (0 : Int32)) 2 (0 : Int32)) 3 (0 : Int32)) 4 (0 : Int32)) 5 (0 : Int32)) 6 (0 : Int32)) vU_39 p0_47 vH_width)) (kRunS (As := [.ref (qH 10), .int 0]) (rest := []) ⟨hx, hb, hml, hown, ht0⟩ (kJ7_fill_53178 l D cy _ (qH 10) 36 vH_next (0 : Int32) p0_47 hc47 _ rfl) (va_cwS 2 ht0 (gS wd254 wd30 wd31 wd32) rfl rfl rfl (by decide +kernel) ⟨Nat.le_of_ble_eq_true rfl, Nat.le_of_ble_eq_true rfl⟩) hK hN hP hD [2] rfl (by decide) rfl hl.1 rfl (Nat.le_of_ble_eq_true rfl) dX4_clear_47 ⟨Nat.zero_le _, Nat.zero_le _⟩) hP hD hS hA [2] [0, 1, 3] rfl rfl (by decide) (by decide) [0, 1, 3, 2] (by decide) rfl rfl (fun H locs hP hD hS => ?_)
  refine lv_aload_n hx hb dX4_clear_50 rfl (lv_at hl 0 rfl) ?_
  refine va_get (D := D) (ci := 3) (v := .ref (qH 11)) (C := RX4) (T := TX4) (N := 20) hx hb ht0 niX4 hown hK hP 0 rfl rfl 11 (by decide) (ht0 _ wd129) (fun _ h9 => h9) rfl dX4_clear_51 ?_
  refine lv_bipush (v := 10) hx hb dX4_clear_54 (by decide) ?_
  obtain ⟨p0_56, hc56, hok⟩ := k_bind hok
  refine kCv (wc := (wJ7_fill_53178 cy (qH 11) 36 vH_width)) (wc2 := (wJ7_fill_53178 cy (qH 11) 36 p0_56)) (wr := [(aH, oX4 (upd (upd (upd (upd (upd (upd (upd vH 0 (0 : Int32)) 1 (0 : Int32)) 2 (0 : Int32)) 3 (0 : Int32)) 4 (0 : Int32)) 5 (0 : Int32)) 6 (0 : Int32)) qH), (qH 7, oX7 vU_39 qU), (qH 10, rI cy 36 p0_47)]) (ws2 := (wX4_clear cy aH qH qU (upd (upd (upd (upd (upd (upd (upd vH 0 (0 : Int32)) 1 (0 : Int32)) 2 (0 : Int32)) 3 (0 : Int32)) 4 (0 : Int32)) 5 (0 : Int32)) 6 (0 : Int32)) vU_39 p0_47 p0_56)) (kRunS (As := [.ref (qH 11), .int 10]) (rest := []) ⟨hx, hb, hml, hown, ht0⟩ (kJ7_fill_53178 l D cy _ (qH 11) 36 vH_width (10 : Int32) p0_56 hc56 _ rfl) (va_cwS 2 ht0 (gS wd254 wd30 wd31 wd32) rfl rfl rfl (by decide +kernel) ⟨Nat.le_of_ble_eq_true rfl, Nat.le_of_ble_eq_true rfl⟩) hK hN hP hD [3] rfl (by decide) rfl hl.1 rfl (Nat.le_of_ble_eq_true rfl) dX4_clear_56 ⟨Nat.zero_le _, Nat.zero_le _⟩) hP hD hS hA [3] [0, 1, 2] rfl rfl (by decide) (by decide) [0, 1, 2, 3] (by decide) rfl rfl (fun H locs hP hD hS => ?_)
  cases hok
  exact W.vret hx hb hr (fun t ht hW => ⟨⟨(), rfl, trivial, by rw [ht]; exact hP, va_K.moved hW.alike hK, hD⟩, hS.F ht⟩) hS.2.2 dX4_clear_59
def wsX4_stands : List Cond := .code yX4_stands cX4_stands 1 (some .boolean) :: W0
abbrev wX4_stands (cy : Nat → ClassId) (aH : Nat) (qH : Nat → Nat) (vH : Nat → Int32) : va_W := [(aH, oX4 vH qH)]
set_option maxHeartbeats 4000000 in
set_option maxRecDepth 100000 in
theorem kX4_stands (l : Launch) (D : va_G) (cy : Nat → ClassId) (sz : Nat) (aH : Nat) (qH : Nat → Nat) (vH : Nat → Int32) (zr : Int32) (hok : fX4_stands vH = some zr) (A : Nat → Prop) (hAe : va_A (wX4_stands cy aH qH vH) sz = A) : Met l yX4_stands wsX4_stands ({ frames := 0, cells := 0, slots := 0, locals := 0 } : Room) (kPre D cy [.ref aH] (wX4_stands cy aH qH vH) sz) (kQi D cy zr A (wX4_stands cy aH qH vH)) 0 0 A := by
  refine Met.ofW (cc := cX4_stands) (maxL := 1) (ret := (some .boolean)) (by decide) rfl ?_
  intro p e s m args below meth c s₁ B hml hv
  obtain ⟨rfl, hsz, hP, hK, hD0, hN⟩ := hv
  have hx := B.exec
  have hb := B.bytes
  have hr := B.returns
  have ht0 : ∀ w ∈ W0, w.before _ s = true := fun w h => atoms_spec (ws := wsX4_stands) B.pre w (List.mem_cons_of_mem _ h)
  have hown : s.vm.findClass RX4 = some m.cls := findClass_of_methodNamed B.named
  have hlocks := B.notSynchronized
  subst hsz
  have hD : va_D A (wX4_stands cy aH qH vH) := by rw [← hAe]; exact hD0.self
  have hA : ∀ q : Nat, s.heap.size ≤ q → A q := fun q h => by rw [← hAe]; exact Or.inr h
  have hS : va_S A s.heap s.heap [] := va_S.rf
  have hl := lv_entry ([.ref aH]) (n := 1) (Nat.le_of_ble_eq_true rfl)
  rw [lg_entry_eq]
  generalize (lg_sl ([.ref aH]) ++ List.replicate (1 - (lg_sl ([.ref aH])).length) Slot.unset).toArray = ls at hl ⊢
  have hl : lv_has ls 1 [(0, .ref aH)] := hl
  generalize hQe : MQ below (kQi D cy zr A (wX4_stands cy aH qH vH)) ([.ref aH] : List Value).toArray s 0 0 A = Q
  have J12 : ∀ (t0_12 : Int32), ∀ (H : Heap) (locs : List Loc) (ls : Array Slot), va_P D vwCl (wX4_stands cy aH qH vH) H → va_D A (wX4_stands cy aH qH vH) → va_S A s.heap H locs → lv_has ls 1 [] → fX4_stands_J12 t0_12 = some zr → W p l e ({ frames := 0, cells := 0, slots := 0, locals := 0 } : Room) s m ([.ref aH] : List Value).toArray below meth c H locs 0 0 Q (F0 m 12 ls [.int t0_12]) := by
    intro t0_12 H locs ls hP hD hS hl hok
    unfold fX4_stands_J12 at hok
    obtain ⟨g12, hok⟩ := gd_some hok
    cases hok
    subst hQe; exact W.zret hx hb hr (isB_nar g12) (fun t ht hW => ⟨⟨_, (), rfl, rfl, by rw [ht]; exact hP, va_K.moved hW.alike hK, hD⟩, hS.F ht⟩) hS.2.2 dX4_stands_12
  unfold fX4_stands at hok
  obtain ⟨H, hH⟩ : ∃ H, H = s.heap := ⟨_, rfl⟩
  obtain ⟨locs, hlc⟩ : ∃ x : List Loc, x = [] := ⟨_, rfl⟩
  have hP : va_P D vwCl (wX4_stands cy aH qH vH) H := by rw [hH]; exact hP
  have hS : va_S A s.heap H locs := by rw [hH, hlc]; exact hS
  rw [show W p l e _ s m _ below meth c s.heap [] = W p l e _ s m _ below meth c H locs from by rw [hH, hlc]]
  refine lv_aload_n hx hb dX4_stands_0 rfl (lv_at hl 0 rfl) ?_
  refine va_get (D := D) (ci := 3) (v := .int (vH 2)) (C := RX4) (T := TX4) (N := 20) hx hb ht0 niX4 hown hK hP 0 rfl rfl 2 (by decide) (ht0 _ wd93) (fun _ h9 => h9) rfl dX4_stands_1 ?_
  refine lv_if_le (tgt := 11) hx hb dX4_stands_4 (by decide) (fun c4 => ?_) (fun c4 => ?_)
  · have hok := k_pos c4 hok
    refine lv_iconst (v := 0) hx hb dX4_stands_11 (by decide) ?_
    exact J12 (0 : Int32) H locs ls hP hD hS (lv_sub hl [] rfl) hok
  · have hok := k_neg c4 hok
    refine lv_iconst (v := 1) hx hb dX4_stands_7 (by decide) ?_
    refine lv_goto (tgt := 12) hx hb dX4_stands_8 (by decide) ?_
    exact J12 (1 : Int32) H locs ls hP hD hS (lv_sub hl [] rfl) hok
def wsX4_hasPlace : List Cond := .code yX4_hasPlace cX4_hasPlace 3 (some .boolean) :: W0
abbrev wX4_hasPlace (cy : Nat → ClassId) (aH : Nat) (qH : Nat → Nat) (vH : Nat → Int32) (vH_places : Nat → Int32) : va_W := [(aH, oX4 vH qH), (qH 9, rI cy 4 vH_places)]
set_option maxHeartbeats 4000000 in
set_option maxRecDepth 100000 in
theorem kX4_hasPlace (l : Launch) (D : va_G) (cy : Nat → ClassId) (sz : Nat) (aH : Nat) (qH : Nat → Nat) (vH : Nat → Int32) (vH_places : Nat → Int32) (x1 : Int32) (x2 : Int32) (zr : Int32) (hok : fX4_hasPlace vH vH_places x1 x2 = some zr) (A : Nat → Prop) (hAe : va_A (wX4_hasPlace cy aH qH vH vH_places) sz = A) : Met l yX4_hasPlace wsX4_hasPlace ({ frames := 1, cells := 0, slots := 0, locals := 21 } : Room) (kPre D cy [.ref aH, .int x1, .int x2] (wX4_hasPlace cy aH qH vH vH_places) sz) (kQi D cy zr A (wX4_hasPlace cy aH qH vH vH_places)) 0 0 A := by
  refine Met.ofW (cc := cX4_hasPlace) (maxL := 3) (ret := (some .boolean)) (by decide) rfl ?_
  intro p e s m args below meth c s₁ B hml hv
  obtain ⟨rfl, hsz, hP, hK, hD0, hN⟩ := hv
  have hx := B.exec
  have hb := B.bytes
  have hr := B.returns
  have ht0 : ∀ w ∈ W0, w.before _ s = true := fun w h => atoms_spec (ws := wsX4_hasPlace) B.pre w (List.mem_cons_of_mem _ h)
  have hown : s.vm.findClass RX4 = some m.cls := findClass_of_methodNamed B.named
  have hlocks := B.notSynchronized
  subst hsz
  have hD : va_D A (wX4_hasPlace cy aH qH vH vH_places) := by rw [← hAe]; exact hD0.self
  have hA : ∀ q : Nat, s.heap.size ≤ q → A q := fun q h => by rw [← hAe]; exact Or.inr h
  have hS : va_S A s.heap s.heap [] := va_S.rf
  have hl := lv_entry ([.ref aH, .int x1, .int x2]) (n := 3) (Nat.le_of_ble_eq_true rfl)
  rw [lg_entry_eq]
  generalize (lg_sl ([.ref aH, .int x1, .int x2]) ++ List.replicate (3 - (lg_sl ([.ref aH, .int x1, .int x2])).length) Slot.unset).toArray = ls at hl ⊢
  have hl : lv_has ls 3 [(0, .ref aH), (1, .int x1), (2, .int x2)] := hl
  generalize hQe : MQ below (kQi D cy zr A (wX4_hasPlace cy aH qH vH vH_places)) ([.ref aH, .int x1, .int x2] : List Value).toArray s 0 0 A = Q
  have J27 : ∀ (t0_27 : Int32), ∀ (H : Heap) (locs : List Loc) (ls : Array Slot), va_P D vwCl (wX4_hasPlace cy aH qH vH vH_places) H → va_D A (wX4_hasPlace cy aH qH vH vH_places) → va_S A s.heap H locs → lv_has ls 3 [] → fX4_hasPlace_J27 t0_27 = some zr → W p l e ({ frames := 1, cells := 0, slots := 0, locals := 21 } : Room) s m ([.ref aH, .int x1, .int x2] : List Value).toArray below meth c H locs 0 0 Q (F0 m 27 ls [.int t0_27]) := by
    intro t0_27 H locs ls hP hD hS hl hok
    unfold fX4_hasPlace_J27 at hok
    obtain ⟨g27, hok⟩ := gd_some hok
    cases hok
    subst hQe; exact W.zret hx hb hr (isB_nar g27) (fun t ht hW => ⟨⟨_, (), rfl, rfl, by rw [ht]; exact hP, va_K.moved hW.alike hK, hD⟩, hS.F ht⟩) hS.2.2 dX4_hasPlace_27
  have J26 : ∀ (H : Heap) (locs : List Loc) (ls : Array Slot), va_P D vwCl (wX4_hasPlace cy aH qH vH vH_places) H → va_D A (wX4_hasPlace cy aH qH vH vH_places) → va_S A s.heap H locs → lv_has ls 3 [] → fX4_hasPlace_J26 = some zr → W p l e ({ frames := 1, cells := 0, slots := 0, locals := 21 } : Room) s m ([.ref aH, .int x1, .int x2] : List Value).toArray below meth c H locs 0 0 Q (F0 m 26 ls []) := by
    intro  H locs ls hP hD hS hl hok
    unfold fX4_hasPlace_J26 at hok
    refine lv_iconst (v := 0) hx hb dX4_hasPlace_26 (by decide) ?_
    exact J27 (0 : Int32) H locs ls hP hD hS (lv_sub hl [] rfl) hok
  unfold fX4_hasPlace at hok
  obtain ⟨H, hH⟩ : ∃ H, H = s.heap := ⟨_, rfl⟩
  obtain ⟨locs, hlc⟩ : ∃ x : List Loc, x = [] := ⟨_, rfl⟩
  have hP : va_P D vwCl (wX4_hasPlace cy aH qH vH vH_places) H := by rw [hH]; exact hP
  have hS : va_S A s.heap H locs := by rw [hH, hlc]; exact hS
  rw [show W p l e _ s m _ below meth c s.heap [] = W p l e _ s m _ below meth c H locs from by rw [hH, hlc]]
  refine lv_aload_n hx hb dX4_hasPlace_0 rfl (lv_at hl 0 rfl) ?_
  refine lv_iload_n hx hb dX4_hasPlace_1 rfl (lv_at hl 1 rfl) ?_
  obtain ⟨r2, hc2, hok⟩ := k_bind hok
  refine kCi (wc := (wX4_hasRing cy aH qH vH)) (wc2 := (wX4_hasRing cy aH qH vH)) (wr := [(qH 9, rI cy 4 vH_places)]) (ws2 := (wX4_hasPlace cy aH qH vH vH_places)) (kRunV (As := [.int x1]) (rest := []) ⟨hx, hb, hml, hown, ht0⟩ (kX4_hasRing l D cy _ aH qH vH x1 r2 hc2 _ rfl) (cwV 1 ht0 (gV wd94 wd95 wd96 wd9 wd97) rfl rfl rfl (by decide +kernel) ⟨Nat.le_of_ble_eq_true rfl, Nat.le_of_ble_eq_true rfl⟩) hK hN hP hD [0] rfl (by decide) 0 3 rfl rfl rfl hl.1 rfl (Nat.le_of_ble_eq_true rfl) dX4_hasPlace_2 ⟨Nat.zero_le _, Nat.zero_le _⟩) hP hD hS hA [0] [1] rfl rfl (by decide) (by decide) [1, 0] (by decide) rfl rfl (fun H locs hP hD hS => ?_)
  refine lv_if_eq (tgt := 26) hx hb dX4_hasPlace_5 (by decide) (fun c5 => ?_) (fun c5 => ?_)
  · have hok := k_pos c5 hok
    exact J26  H locs ls hP hD hS (lv_sub hl [] rfl) hok
  · have hok := k_neg c5 hok
    refine lv_iload_n hx hb dX4_hasPlace_8 rfl (lv_at hl 2 rfl) ?_
    refine lv_if_lt (tgt := 26) hx hb dX4_hasPlace_9 (by decide) (fun c9 => ?_) (fun c9 => ?_)
    · have hok := k_pos c9 hok
      exact J26  H locs ls hP hD hS (lv_sub hl [] rfl) hok
    · have hok := k_neg c9 hok
      refine lv_iload_n hx hb dX4_hasPlace_12 rfl (lv_at hl 2 rfl) ?_
      refine lv_aload_n hx hb dX4_hasPlace_13 rfl (lv_at hl 0 rfl) ?_
      refine va_get (D := D) (ci := 3) (v := .ref (qH 9)) (C := RX4) (T := TX4) (N := 20) hx hb ht0 niX4 hown hK hP 0 rfl rfl 9 (by decide) (ht0 _ wd255) (fun _ h9 => h9) rfl dX4_hasPlace_14 ?_
      refine lv_iload_n hx hb dX4_hasPlace_17 rfl (lv_at hl 1 rfl) ?_
      obtain ⟨g18, hok⟩ := gd_some hok
      refine va_iald hx hb hK hP 1 0 rfl rfl (okI_in g18) dX4_hasPlace_18 ?_
      refine lv_icmp_ge (tgt := 26) hx hb dX4_hasPlace_19 (by decide) (fun c19 => ?_) (fun c19 => ?_)
      · have hok := k_pos c19 hok
        exact J26  H locs ls hP hD hS (lv_sub hl [] rfl) hok
      · have hok := k_neg c19 hok
        refine lv_iconst (v := 1) hx hb dX4_hasPlace_22 (by decide) ?_
        refine lv_goto (tgt := 27) hx hb dX4_hasPlace_23 (by decide) ?_
        exact J27 (1 : Int32) H locs ls hP hD hS (lv_sub hl [] rfl) hok
def wsX4_hasThing : List Cond := .code yX4_hasThing cX4_hasThing 2 (some .boolean) :: W0
abbrev wX4_hasThing (cy : Nat → ClassId) (aH : Nat) (qH : Nat → Nat) (vH : Nat → Int32) : va_W := [(aH, oX4 vH qH)]
set_option maxHeartbeats 4000000 in
set_option maxRecDepth 100000 in
theorem kX4_hasThing (l : Launch) (D : va_G) (cy : Nat → ClassId) (sz : Nat) (aH : Nat) (qH : Nat → Nat) (vH : Nat → Int32) (x1 : Int32) (zr : Int32) (hok : fX4_hasThing vH x1 = some zr) (A : Nat → Prop) (hAe : va_A (wX4_hasThing cy aH qH vH) sz = A) : Met l yX4_hasThing wsX4_hasThing ({ frames := 0, cells := 0, slots := 0, locals := 0 } : Room) (kPre D cy [.ref aH, .int x1] (wX4_hasThing cy aH qH vH) sz) (kQi D cy zr A (wX4_hasThing cy aH qH vH)) 0 0 A := by
  refine Met.ofW (cc := cX4_hasThing) (maxL := 2) (ret := (some .boolean)) (by decide) rfl ?_
  intro p e s m args below meth c s₁ B hml hv
  obtain ⟨rfl, hsz, hP, hK, hD0, hN⟩ := hv
  have hx := B.exec
  have hb := B.bytes
  have hr := B.returns
  have ht0 : ∀ w ∈ W0, w.before _ s = true := fun w h => atoms_spec (ws := wsX4_hasThing) B.pre w (List.mem_cons_of_mem _ h)
  have hown : s.vm.findClass RX4 = some m.cls := findClass_of_methodNamed B.named
  have hlocks := B.notSynchronized
  subst hsz
  have hD : va_D A (wX4_hasThing cy aH qH vH) := by rw [← hAe]; exact hD0.self
  have hA : ∀ q : Nat, s.heap.size ≤ q → A q := fun q h => by rw [← hAe]; exact Or.inr h
  have hS : va_S A s.heap s.heap [] := va_S.rf
  have hl := lv_entry ([.ref aH, .int x1]) (n := 2) (Nat.le_of_ble_eq_true rfl)
  rw [lg_entry_eq]
  generalize (lg_sl ([.ref aH, .int x1]) ++ List.replicate (2 - (lg_sl ([.ref aH, .int x1])).length) Slot.unset).toArray = ls at hl ⊢
  have hl : lv_has ls 2 [(0, .ref aH), (1, .int x1)] := hl
  generalize hQe : MQ below (kQi D cy zr A (wX4_hasThing cy aH qH vH)) ([.ref aH, .int x1] : List Value).toArray s 0 0 A = Q
  have J23 : ∀ (t0_23 : Int32), ∀ (H : Heap) (locs : List Loc) (ls : Array Slot), va_P D vwCl (wX4_hasThing cy aH qH vH) H → va_D A (wX4_hasThing cy aH qH vH) → va_S A s.heap H locs → lv_has ls 2 [] → fX4_hasThing_J23 t0_23 = some zr → W p l e ({ frames := 0, cells := 0, slots := 0, locals := 0 } : Room) s m ([.ref aH, .int x1] : List Value).toArray below meth c H locs 0 0 Q (F0 m 23 ls [.int t0_23]) := by
    intro t0_23 H locs ls hP hD hS hl hok
    unfold fX4_hasThing_J23 at hok
    obtain ⟨g23, hok⟩ := gd_some hok
    cases hok
    subst hQe; exact W.zret hx hb hr (isB_nar g23) (fun t ht hW => ⟨⟨_, (), rfl, rfl, by rw [ht]; exact hP, va_K.moved hW.alike hK, hD⟩, hS.F ht⟩) hS.2.2 dX4_hasThing_23
  have J22 : ∀ (H : Heap) (locs : List Loc) (ls : Array Slot), va_P D vwCl (wX4_hasThing cy aH qH vH) H → va_D A (wX4_hasThing cy aH qH vH) → va_S A s.heap H locs → lv_has ls 2 [] → fX4_hasThing_J22 = some zr → W p l e ({ frames := 0, cells := 0, slots := 0, locals := 0 } : Room) s m ([.ref aH, .int x1] : List Value).toArray below meth c H locs 0 0 Q (F0 m 22 ls []) := by
    intro  H locs ls hP hD hS hl hok
    unfold fX4_hasThing_J22 at hok
    refine lv_iconst (v := 0) hx hb dX4_hasThing_22 (by decide) ?_
    exact J23 (0 : Int32) H locs ls hP hD hS (lv_sub hl [] rfl) hok
  unfold fX4_hasThing at hok
  obtain ⟨H, hH⟩ : ∃ H, H = s.heap := ⟨_, rfl⟩
  obtain ⟨locs, hlc⟩ : ∃ x : List Loc, x = [] := ⟨_, rfl⟩
  have hP : va_P D vwCl (wX4_hasThing cy aH qH vH) H := by rw [hH]; exact hP
  have hS : va_S A s.heap H locs := by rw [hH, hlc]; exact hS
  rw [show W p l e _ s m _ below meth c s.heap [] = W p l e _ s m _ below meth c H locs from by rw [hH, hlc]]
  refine lv_iload_n hx hb dX4_hasThing_0 rfl (lv_at hl 1 rfl) ?_
  refine lv_if_lt (tgt := 22) hx hb dX4_hasThing_1 (by decide) (fun c1 => ?_) (fun c1 => ?_)
  · have hok := k_pos c1 hok
    exact J22  H locs ls hP hD hS (lv_sub hl [] rfl) hok
  · have hok := k_neg c1 hok
    refine lv_iload_n hx hb dX4_hasThing_4 rfl (lv_at hl 1 rfl) ?_
    refine lv_aload_n hx hb dX4_hasThing_5 rfl (lv_at hl 0 rfl) ?_
    refine va_get (D := D) (ci := 3) (v := .int (vH 5)) (C := RX4) (T := TX4) (N := 20) hx hb ht0 niX4 hown hK hP 0 rfl rfl 5 (by decide) (ht0 _ wd248) (fun _ h9 => h9) rfl dX4_hasThing_6 ?_
    refine lv_icmp_ge (tgt := 22) hx hb dX4_hasThing_9 (by decide) (fun c9 => ?_) (fun c9 => ?_)
    · have hok := k_pos c9 hok
      exact J22  H locs ls hP hD hS (lv_sub hl [] rfl) hok
    · have hok := k_neg c9 hok
      refine lv_iload_n hx hb dX4_hasThing_12 rfl (lv_at hl 1 rfl) ?_
      refine lv_bipush (v := 7) hx hb dX4_hasThing_13 (by decide) ?_
      refine lv_icmp_ge (tgt := 22) hx hb dX4_hasThing_15 (by decide) (fun c15 => ?_) (fun c15 => ?_)
      · have hok := k_pos c15 hok
        exact J22  H locs ls hP hD hS (lv_sub hl [] rfl) hok
      · have hok := k_neg c15 hok
        refine lv_iconst (v := 1) hx hb dX4_hasThing_18 (by decide) ?_
        refine lv_goto (tgt := 23) hx hb dX4_hasThing_19 (by decide) ?_
        exact J23 (1 : Int32) H locs ls hP hD hS (lv_sub hl [] rfl) hok
def wsX4_placesOf : List Cond := .code yX4_placesOf cX4_placesOf 2 (some .int) :: W0
abbrev wX4_placesOf (cy : Nat → ClassId) (aH : Nat) (qH : Nat → Nat) (vH : Nat → Int32) (vH_places : Nat → Int32) : va_W := [(aH, oX4 vH qH), (qH 9, rI cy 4 vH_places)]
set_option maxHeartbeats 4000000 in
set_option maxRecDepth 100000 in
theorem kX4_placesOf (l : Launch) (D : va_G) (cy : Nat → ClassId) (sz : Nat) (aH : Nat) (qH : Nat → Nat) (vH : Nat → Int32) (vH_places : Nat → Int32) (x1 : Int32) (zr : Int32) (hok : fX4_placesOf vH vH_places x1 = some zr) (A : Nat → Prop) (hAe : va_A (wX4_placesOf cy aH qH vH vH_places) sz = A) : Met l yX4_placesOf wsX4_placesOf ({ frames := 1, cells := 0, slots := 0, locals := 21 } : Room) (kPre D cy [.ref aH, .int x1] (wX4_placesOf cy aH qH vH vH_places) sz) (kQi D cy zr A (wX4_placesOf cy aH qH vH vH_places)) 0 0 A := by
  refine Met.ofW (cc := cX4_placesOf) (maxL := 2) (ret := (some .int)) (by decide) rfl ?_
  intro p e s m args below meth c s₁ B hml hv
  obtain ⟨rfl, hsz, hP, hK, hD0, hN⟩ := hv
  have hx := B.exec
  have hb := B.bytes
  have hr := B.returns
  have ht0 : ∀ w ∈ W0, w.before _ s = true := fun w h => atoms_spec (ws := wsX4_placesOf) B.pre w (List.mem_cons_of_mem _ h)
  have hown : s.vm.findClass RX4 = some m.cls := findClass_of_methodNamed B.named
  have hlocks := B.notSynchronized
  subst hsz
  have hD : va_D A (wX4_placesOf cy aH qH vH vH_places) := by rw [← hAe]; exact hD0.self
  have hA : ∀ q : Nat, s.heap.size ≤ q → A q := fun q h => by rw [← hAe]; exact Or.inr h
  have hS : va_S A s.heap s.heap [] := va_S.rf
  have hl := lv_entry ([.ref aH, .int x1]) (n := 2) (Nat.le_of_ble_eq_true rfl)
  rw [lg_entry_eq]
  generalize (lg_sl ([.ref aH, .int x1]) ++ List.replicate (2 - (lg_sl ([.ref aH, .int x1])).length) Slot.unset).toArray = ls at hl ⊢
  have hl : lv_has ls 2 [(0, .ref aH), (1, .int x1)] := hl
  generalize hQe : MQ below (kQi D cy zr A (wX4_placesOf cy aH qH vH vH_places)) ([.ref aH, .int x1] : List Value).toArray s 0 0 A = Q
  have J18 : ∀ (t0_18 : Int32), ∀ (H : Heap) (locs : List Loc) (ls : Array Slot), va_P D vwCl (wX4_placesOf cy aH qH vH vH_places) H → va_D A (wX4_placesOf cy aH qH vH vH_places) → va_S A s.heap H locs → lv_has ls 2 [] → fX4_placesOf_J18 t0_18 = some zr → W p l e ({ frames := 1, cells := 0, slots := 0, locals := 21 } : Room) s m ([.ref aH, .int x1] : List Value).toArray below meth c H locs 0 0 Q (F0 m 18 ls [.int t0_18]) := by
    intro t0_18 H locs ls hP hD hS hl hok
    unfold fX4_placesOf_J18 at hok
    cases hok
    subst hQe; exact W.iret hx hb hr (fun t ht hW => ⟨⟨_, (), rfl, rfl, by rw [ht]; exact hP, va_K.moved hW.alike hK, hD⟩, hS.F ht⟩) hS.2.2 dX4_placesOf_18
  unfold fX4_placesOf at hok
  obtain ⟨H, hH⟩ : ∃ H, H = s.heap := ⟨_, rfl⟩
  obtain ⟨locs, hlc⟩ : ∃ x : List Loc, x = [] := ⟨_, rfl⟩
  have hP : va_P D vwCl (wX4_placesOf cy aH qH vH vH_places) H := by rw [hH]; exact hP
  have hS : va_S A s.heap H locs := by rw [hH, hlc]; exact hS
  rw [show W p l e _ s m _ below meth c s.heap [] = W p l e _ s m _ below meth c H locs from by rw [hH, hlc]]
  refine lv_aload_n hx hb dX4_placesOf_0 rfl (lv_at hl 0 rfl) ?_
  refine lv_iload_n hx hb dX4_placesOf_1 rfl (lv_at hl 1 rfl) ?_
  obtain ⟨r2, hc2, hok⟩ := k_bind hok
  refine kCi (wc := (wX4_hasRing cy aH qH vH)) (wc2 := (wX4_hasRing cy aH qH vH)) (wr := [(qH 9, rI cy 4 vH_places)]) (ws2 := (wX4_placesOf cy aH qH vH vH_places)) (kRunV (As := [.int x1]) (rest := []) ⟨hx, hb, hml, hown, ht0⟩ (kX4_hasRing l D cy _ aH qH vH x1 r2 hc2 _ rfl) (cwV 1 ht0 (gV wd94 wd95 wd96 wd9 wd97) rfl rfl rfl (by decide +kernel) ⟨Nat.le_of_ble_eq_true rfl, Nat.le_of_ble_eq_true rfl⟩) hK hN hP hD [0] rfl (by decide) 0 3 rfl rfl rfl hl.1 rfl (Nat.le_of_ble_eq_true rfl) dX4_placesOf_2 ⟨Nat.zero_le _, Nat.zero_le _⟩) hP hD hS hA [0] [1] rfl rfl (by decide) (by decide) [1, 0] (by decide) rfl rfl (fun H locs hP hD hS => ?_)
  refine lv_if_eq (tgt := 17) hx hb dX4_placesOf_5 (by decide) (fun c5 => ?_) (fun c5 => ?_)
  · have hok := k_pos c5 hok
    refine lv_iconst (v := 0) hx hb dX4_placesOf_17 (by decide) ?_
    exact J18 (0 : Int32) H locs ls hP hD hS (lv_sub hl [] rfl) hok
  · have hok := k_neg c5 hok
    refine lv_aload_n hx hb dX4_placesOf_8 rfl (lv_at hl 0 rfl) ?_
    refine va_get (D := D) (ci := 3) (v := .ref (qH 9)) (C := RX4) (T := TX4) (N := 20) hx hb ht0 niX4 hown hK hP 0 rfl rfl 9 (by decide) (ht0 _ wd255) (fun _ h9 => h9) rfl dX4_placesOf_9 ?_
    refine lv_iload_n hx hb dX4_placesOf_12 rfl (lv_at hl 1 rfl) ?_
    obtain ⟨g13, hok⟩ := gd_some hok
    refine va_iald hx hb hK hP 1 0 rfl rfl (okI_in g13) dX4_placesOf_13 ?_
    refine lv_goto (tgt := 18) hx hb dX4_placesOf_14 (by decide) ?_
    exact J18 (vH_places x1.toNatClampNeg) H locs ls hP hD hS (lv_sub hl [] rfl) hok
def wsX4_placesOfAll : List Cond := .code yX4_placesOfAll cX4_placesOfAll 3 (some .int) :: W0
abbrev wX4_placesOfAll (cy : Nat → ClassId) (aH : Nat) (qH : Nat → Nat) (vH : Nat → Int32) (vH_places : Nat → Int32) : va_W := [(aH, oX4 vH qH), (qH 9, rI cy 4 vH_places)]
set_option maxHeartbeats 4000000 in
set_option maxRecDepth 100000 in
theorem kX4_placesOfAll (l : Launch) (D : va_G) (cy : Nat → ClassId) (sz : Nat) (aH : Nat) (qH : Nat → Nat) (vH : Nat → Int32) (vH_places : Nat → Int32) (zr : Int32) (hok : fX4_placesOfAll vH vH_places = some zr) (A : Nat → Prop) (hAe : va_A (wX4_placesOfAll cy aH qH vH vH_places) sz = A) : Met l yX4_placesOfAll wsX4_placesOfAll ({ frames := 2, cells := 0, slots := 0, locals := 42 } : Room) (kPre D cy [.ref aH] (wX4_placesOfAll cy aH qH vH vH_places) sz) (kQi D cy zr A (wX4_placesOfAll cy aH qH vH vH_places)) 0 0 A := by
  refine Met.ofW (cc := cX4_placesOfAll) (maxL := 3) (ret := (some .int)) (by decide) rfl ?_
  intro p e s m args below meth c s₁ B hml hv
  obtain ⟨rfl, hsz, hP, hK, hD0, hN⟩ := hv
  have hx := B.exec
  have hb := B.bytes
  have hr := B.returns
  have ht0 : ∀ w ∈ W0, w.before _ s = true := fun w h => atoms_spec (ws := wsX4_placesOfAll) B.pre w (List.mem_cons_of_mem _ h)
  have hown : s.vm.findClass RX4 = some m.cls := findClass_of_methodNamed B.named
  have hlocks := B.notSynchronized
  subst hsz
  have hD : va_D A (wX4_placesOfAll cy aH qH vH vH_places) := by rw [← hAe]; exact hD0.self
  have hA : ∀ q : Nat, s.heap.size ≤ q → A q := fun q h => by rw [← hAe]; exact Or.inr h
  have hS : va_S A s.heap s.heap [] := va_S.rf
  have hl := lv_entry ([.ref aH]) (n := 3) (Nat.le_of_ble_eq_true rfl)
  rw [lg_entry_eq]
  generalize (lg_sl ([.ref aH]) ++ List.replicate (3 - (lg_sl ([.ref aH])).length) Slot.unset).toArray = ls at hl ⊢
  have hl : lv_has ls 3 [(0, .ref aH)] := hl
  generalize hQe : MQ below (kQi D cy zr A (wX4_placesOfAll cy aH qH vH vH_places)) ([.ref aH] : List Value).toArray s 0 0 A = Q
  have L4 : ∀ (fuel : Nat) (y1_4 : Int32) (y2_4 : Int32), ∀ (H : Heap) (locs : List Loc) (ls : Array Slot), va_P D vwCl (wX4_placesOfAll cy aH qH vH vH_places) H → va_D A (wX4_placesOfAll cy aH qH vH vH_places) → va_S A s.heap H locs → lv_has ls 3 [(0, .ref aH), (1, .int y1_4), (2, .int y2_4)] → lp (fX4_placesOfAll_B4 vH vH_places) fuel (y1_4, y2_4) = some zr → W p l e ({ frames := 2, cells := 0, slots := 0, locals := 42 } : Room) s m ([.ref aH] : List Value).toArray below meth c H locs 0 0 Q (F0 m 4 ls []) := by
    intro fuel
    induction fuel with
    | zero => intro y1_4 y2_4 H locs ls hP hD hS hl hok; exact (lp_0 hok).elim
    | succ fuel ih4 =>
      intro y1_4 y2_4 H locs ls hP hD hS hl hok
      obtain ⟨y4, hok, hL4, hR4⟩ := lp_step hok
      unfold fX4_placesOfAll_B4 at hok
      try dsimp only at hok
      refine lv_iload_n hx hb dX4_placesOfAll_4 rfl (lv_at hl 2 rfl) ?_
      refine lv_aload_n hx hb dX4_placesOfAll_5 rfl (lv_at hl 0 rfl) ?_
      refine va_get (D := D) (ci := 3) (v := .int (vH 2)) (C := RX4) (T := TX4) (N := 20) hx hb ht0 niX4 hown hK hP 0 rfl rfl 2 (by decide) (ht0 _ wd93) (fun _ h9 => h9) rfl dX4_placesOfAll_6 ?_
      refine lv_icmp_ge (tgt := 26) hx hb dX4_placesOfAll_9 (by decide) (fun c9 => ?_) (fun c9 => ?_)
      · have hok := k_pos c9 hok
        obtain ⟨e4, hok, he4⟩ := ex_some hok
        have hok := hok.trans (congrArg some (hL4 _ he4))
        refine lv_iload_n hx hb dX4_placesOfAll_26 rfl (lv_at hl 1 rfl) ?_
        cases hok
        subst hQe; exact W.iret hx hb hr (fun t ht hW => ⟨⟨_, (), rfl, rfl, by rw [ht]; exact hP, va_K.moved hW.alike hK, hD⟩, hS.F ht⟩) hS.2.2 dX4_placesOfAll_27
      · have hok := k_neg c9 hok
        refine lv_iload_n hx hb dX4_placesOfAll_12 rfl (lv_at hl 1 rfl) ?_
        refine lv_aload_n hx hb dX4_placesOfAll_13 rfl (lv_at hl 0 rfl) ?_
        refine lv_iload_n hx hb dX4_placesOfAll_14 rfl (lv_at hl 2 rfl) ?_
        obtain ⟨r15, hc15, hok⟩ := k_bind hok
        refine kCi (wc := (wX4_placesOf cy aH qH vH vH_places)) (wc2 := (wX4_placesOf cy aH qH vH vH_places)) (wr := []) (ws2 := (wX4_placesOfAll cy aH qH vH vH_places)) (kRunV (As := [.int y2_4]) (rest := [.int y1_4]) ⟨hx, hb, hml, hown, ht0⟩ (kX4_placesOf l D cy _ aH qH vH vH_places y2_4 r15 hc15 _ rfl) (cwV 1 ht0 (gV wd256 wd257 wd258 wd9 wd259) rfl rfl rfl (by decide +kernel) ⟨Nat.le_of_ble_eq_true rfl, Nat.le_of_ble_eq_true rfl⟩) hK hN hP hD [0, 1] rfl (by decide) 0 3 rfl rfl rfl hl.1 rfl (Nat.le_of_ble_eq_true rfl) dX4_placesOfAll_15 ⟨Nat.zero_le _, Nat.zero_le _⟩) hP hD hS hA [0, 1] [] rfl rfl (by decide) (by decide) [0, 1] (by decide) rfl rfl (fun H locs hP hD hS => ?_)
        refine lv_iadd hx hb dX4_placesOfAll_18 ?_
        refine lv_istore_n (lv' := [(1, .int (y1_4 + r15)), (0, .ref aH), (2, .int y2_4)]) hx hb dX4_placesOfAll_19 rfl hl (by decide) rfl (fun ls hl => ?_)
        refine lv_iinc (v := (y2_4 + 1)) (lv' := [(2, .int (y2_4 + 1)), (1, .int (y1_4 + r15)), (0, .ref aH)]) hx hb dX4_placesOfAll_20 hl (k := 2) rfl (by first | rfl | decide) (by decide) rfl (fun ls hl => ?_)
        refine lv_goto (tgt := 4) hx hb dX4_placesOfAll_23 (by decide) ?_
        exact ih4 (y1_4 + r15) (y2_4 + 1) H locs ls hP hD hS (lv_sub hl [2, 1, 0] rfl) (hR4 _ (Option.some.inj hok).symm)
  unfold fX4_placesOfAll at hok
  obtain ⟨H, hH⟩ : ∃ H, H = s.heap := ⟨_, rfl⟩
  obtain ⟨locs, hlc⟩ : ∃ x : List Loc, x = [] := ⟨_, rfl⟩
  have hP : va_P D vwCl (wX4_placesOfAll cy aH qH vH vH_places) H := by rw [hH]; exact hP
  have hS : va_S A s.heap H locs := by rw [hH, hlc]; exact hS
  rw [show W p l e _ s m _ below meth c s.heap [] = W p l e _ s m _ below meth c H locs from by rw [hH, hlc]]
  refine lv_iconst (v := 0) hx hb dX4_placesOfAll_0 (by decide) ?_
  refine lv_istore_n (lv' := [(1, .int 0), (0, .ref aH)]) hx hb dX4_placesOfAll_1 rfl hl (by decide) rfl (fun ls hl => ?_)
  refine lv_iconst (v := 0) hx hb dX4_placesOfAll_2 (by decide) ?_
  refine lv_istore_n (lv' := [(2, .int 0), (1, .int 0), (0, .ref aH)]) hx hb dX4_placesOfAll_3 rfl hl (by decide) rfl (fun ls hl => ?_)
  exact L4 5000 (0 : Int32) (0 : Int32) H locs ls hP hD hS (lv_sub hl [2, 1, 0] rfl) hok
def wsX4_widthOf : List Cond := .code yX4_widthOf cX4_widthOf 2 (some .int) :: W0
abbrev wX4_widthOf (cy : Nat → ClassId) (aH : Nat) (qH : Nat → Nat) (vH : Nat → Int32) (vH_width : Nat → Int32) : va_W := [(aH, oX4 vH qH), (qH 11, rI cy 36 vH_width)]
set_option maxHeartbeats 4000000 in
set_option maxRecDepth 100000 in
theorem kX4_widthOf (l : Launch) (D : va_G) (cy : Nat → ClassId) (sz : Nat) (aH : Nat) (qH : Nat → Nat) (vH : Nat → Int32) (vH_width : Nat → Int32) (x1 : Int32) (zr : Int32) (hok : fX4_widthOf vH vH_width x1 = some zr) (A : Nat → Prop) (hAe : va_A (wX4_widthOf cy aH qH vH vH_width) sz = A) : Met l yX4_widthOf wsX4_widthOf ({ frames := 0, cells := 0, slots := 0, locals := 0 } : Room) (kPre D cy [.ref aH, .int x1] (wX4_widthOf cy aH qH vH vH_width) sz) (kQi D cy zr A (wX4_widthOf cy aH qH vH vH_width)) 0 0 A := by
  refine Met.ofW (cc := cX4_widthOf) (maxL := 2) (ret := (some .int)) (by decide) rfl ?_
  intro p e s m args below meth c s₁ B hml hv
  obtain ⟨rfl, hsz, hP, hK, hD0, hN⟩ := hv
  have hx := B.exec
  have hb := B.bytes
  have hr := B.returns
  have ht0 : ∀ w ∈ W0, w.before _ s = true := fun w h => atoms_spec (ws := wsX4_widthOf) B.pre w (List.mem_cons_of_mem _ h)
  have hown : s.vm.findClass RX4 = some m.cls := findClass_of_methodNamed B.named
  have hlocks := B.notSynchronized
  subst hsz
  have hD : va_D A (wX4_widthOf cy aH qH vH vH_width) := by rw [← hAe]; exact hD0.self
  have hA : ∀ q : Nat, s.heap.size ≤ q → A q := fun q h => by rw [← hAe]; exact Or.inr h
  have hS : va_S A s.heap s.heap [] := va_S.rf
  have hl := lv_entry ([.ref aH, .int x1]) (n := 2) (Nat.le_of_ble_eq_true rfl)
  rw [lg_entry_eq]
  generalize (lg_sl ([.ref aH, .int x1]) ++ List.replicate (2 - (lg_sl ([.ref aH, .int x1])).length) Slot.unset).toArray = ls at hl ⊢
  have hl : lv_has ls 2 [(0, .ref aH), (1, .int x1)] := hl
  generalize hQe : MQ below (kQi D cy zr A (wX4_widthOf cy aH qH vH vH_width)) ([.ref aH, .int x1] : List Value).toArray s 0 0 A = Q
  have J21 : ∀ (t0_21 : Int32), ∀ (H : Heap) (locs : List Loc) (ls : Array Slot), va_P D vwCl (wX4_widthOf cy aH qH vH vH_width) H → va_D A (wX4_widthOf cy aH qH vH vH_width) → va_S A s.heap H locs → lv_has ls 2 [] → fX4_widthOf_J21 t0_21 = some zr → W p l e ({ frames := 0, cells := 0, slots := 0, locals := 0 } : Room) s m ([.ref aH, .int x1] : List Value).toArray below meth c H locs 0 0 Q (F0 m 21 ls [.int t0_21]) := by
    intro t0_21 H locs ls hP hD hS hl hok
    unfold fX4_widthOf_J21 at hok
    cases hok
    subst hQe; exact W.iret hx hb hr (fun t ht hW => ⟨⟨_, (), rfl, rfl, by rw [ht]; exact hP, va_K.moved hW.alike hK, hD⟩, hS.F ht⟩) hS.2.2 dX4_widthOf_21
  have J19 : ∀ (H : Heap) (locs : List Loc) (ls : Array Slot), va_P D vwCl (wX4_widthOf cy aH qH vH vH_width) H → va_D A (wX4_widthOf cy aH qH vH vH_width) → va_S A s.heap H locs → lv_has ls 2 [] → fX4_widthOf_J19 = some zr → W p l e ({ frames := 0, cells := 0, slots := 0, locals := 0 } : Room) s m ([.ref aH, .int x1] : List Value).toArray below meth c H locs 0 0 Q (F0 m 19 ls []) := by
    intro  H locs ls hP hD hS hl hok
    unfold fX4_widthOf_J19 at hok
    refine lv_bipush (v := 10) hx hb dX4_widthOf_19 (by decide) ?_
    exact J21 (10 : Int32) H locs ls hP hD hS (lv_sub hl [] rfl) hok
  unfold fX4_widthOf at hok
  obtain ⟨H, hH⟩ : ∃ H, H = s.heap := ⟨_, rfl⟩
  obtain ⟨locs, hlc⟩ : ∃ x : List Loc, x = [] := ⟨_, rfl⟩
  have hP : va_P D vwCl (wX4_widthOf cy aH qH vH vH_width) H := by rw [hH]; exact hP
  have hS : va_S A s.heap H locs := by rw [hH, hlc]; exact hS
  rw [show W p l e _ s m _ below meth c s.heap [] = W p l e _ s m _ below meth c H locs from by rw [hH, hlc]]
  refine lv_iload_n hx hb dX4_widthOf_0 rfl (lv_at hl 1 rfl) ?_
  refine lv_if_lt (tgt := 19) hx hb dX4_widthOf_1 (by decide) (fun c1 => ?_) (fun c1 => ?_)
  · have hok := k_pos c1 hok
    exact J19  H locs ls hP hD hS (lv_sub hl [] rfl) hok
  · have hok := k_neg c1 hok
    refine lv_iload_n hx hb dX4_widthOf_4 rfl (lv_at hl 1 rfl) ?_
    refine lv_bipush (v := 36) hx hb dX4_widthOf_5 (by decide) ?_
    refine lv_icmp_ge (tgt := 19) hx hb dX4_widthOf_7 (by decide) (fun c7 => ?_) (fun c7 => ?_)
    · have hok := k_pos c7 hok
      exact J19  H locs ls hP hD hS (lv_sub hl [] rfl) hok
    · have hok := k_neg c7 hok
      refine lv_aload_n hx hb dX4_widthOf_10 rfl (lv_at hl 0 rfl) ?_
      refine va_get (D := D) (ci := 3) (v := .ref (qH 11)) (C := RX4) (T := TX4) (N := 20) hx hb ht0 niX4 hown hK hP 0 rfl rfl 11 (by decide) (ht0 _ wd129) (fun _ h9 => h9) rfl dX4_widthOf_11 ?_
      refine lv_iload_n hx hb dX4_widthOf_14 rfl (lv_at hl 1 rfl) ?_
      obtain ⟨g15, hok⟩ := gd_some hok
      refine va_iald hx hb hK hP 1 0 rfl rfl (okI_in g15) dX4_widthOf_15 ?_
      refine lv_goto (tgt := 21) hx hb dX4_widthOf_16 (by decide) ?_
      exact J21 (vH_width x1.toNatClampNeg) H locs ls hP hD hS (lv_sub hl [] rfl) hok
def wsX4_sizeOf : List Cond := .code yX4_sizeOf cX4_sizeOf 2 (some .int) :: W0
abbrev wX4_sizeOf (cy : Nat → ClassId) (aH : Nat) (qH : Nat → Nat) (vH : Nat → Int32) (vH_sizes : Nat → Int32) : va_W := [(aH, oX4 vH qH), (qH 15, rI cy 7 vH_sizes)]
set_option maxHeartbeats 4000000 in
set_option maxRecDepth 100000 in
theorem kX4_sizeOf (l : Launch) (D : va_G) (cy : Nat → ClassId) (sz : Nat) (aH : Nat) (qH : Nat → Nat) (vH : Nat → Int32) (vH_sizes : Nat → Int32) (x1 : Int32) (zr : Int32) (hok : fX4_sizeOf vH vH_sizes x1 = some zr) (A : Nat → Prop) (hAe : va_A (wX4_sizeOf cy aH qH vH vH_sizes) sz = A) : Met l yX4_sizeOf wsX4_sizeOf ({ frames := 0, cells := 0, slots := 0, locals := 0 } : Room) (kPre D cy [.ref aH, .int x1] (wX4_sizeOf cy aH qH vH vH_sizes) sz) (kQi D cy zr A (wX4_sizeOf cy aH qH vH vH_sizes)) 0 0 A := by
  refine Met.ofW (cc := cX4_sizeOf) (maxL := 2) (ret := (some .int)) (by decide) rfl ?_
  intro p e s m args below meth c s₁ B hml hv
  obtain ⟨rfl, hsz, hP, hK, hD0, hN⟩ := hv
  have hx := B.exec
  have hb := B.bytes
  have hr := B.returns
  have ht0 : ∀ w ∈ W0, w.before _ s = true := fun w h => atoms_spec (ws := wsX4_sizeOf) B.pre w (List.mem_cons_of_mem _ h)
  have hown : s.vm.findClass RX4 = some m.cls := findClass_of_methodNamed B.named
  have hlocks := B.notSynchronized
  subst hsz
  have hD : va_D A (wX4_sizeOf cy aH qH vH vH_sizes) := by rw [← hAe]; exact hD0.self
  have hA : ∀ q : Nat, s.heap.size ≤ q → A q := fun q h => by rw [← hAe]; exact Or.inr h
  have hS : va_S A s.heap s.heap [] := va_S.rf
  have hl := lv_entry ([.ref aH, .int x1]) (n := 2) (Nat.le_of_ble_eq_true rfl)
  rw [lg_entry_eq]
  generalize (lg_sl ([.ref aH, .int x1]) ++ List.replicate (2 - (lg_sl ([.ref aH, .int x1])).length) Slot.unset).toArray = ls at hl ⊢
  have hl : lv_has ls 2 [(0, .ref aH), (1, .int x1)] := hl
  generalize hQe : MQ below (kQi D cy zr A (wX4_sizeOf cy aH qH vH vH_sizes)) ([.ref aH, .int x1] : List Value).toArray s 0 0 A = Q
  have J20 : ∀ (t0_20 : Int32), ∀ (H : Heap) (locs : List Loc) (ls : Array Slot), va_P D vwCl (wX4_sizeOf cy aH qH vH vH_sizes) H → va_D A (wX4_sizeOf cy aH qH vH vH_sizes) → va_S A s.heap H locs → lv_has ls 2 [] → fX4_sizeOf_J20 t0_20 = some zr → W p l e ({ frames := 0, cells := 0, slots := 0, locals := 0 } : Room) s m ([.ref aH, .int x1] : List Value).toArray below meth c H locs 0 0 Q (F0 m 20 ls [.int t0_20]) := by
    intro t0_20 H locs ls hP hD hS hl hok
    unfold fX4_sizeOf_J20 at hok
    cases hok
    subst hQe; exact W.iret hx hb hr (fun t ht hW => ⟨⟨_, (), rfl, rfl, by rw [ht]; exact hP, va_K.moved hW.alike hK, hD⟩, hS.F ht⟩) hS.2.2 dX4_sizeOf_20
  have J19 : ∀ (H : Heap) (locs : List Loc) (ls : Array Slot), va_P D vwCl (wX4_sizeOf cy aH qH vH vH_sizes) H → va_D A (wX4_sizeOf cy aH qH vH vH_sizes) → va_S A s.heap H locs → lv_has ls 2 [] → fX4_sizeOf_J19 = some zr → W p l e ({ frames := 0, cells := 0, slots := 0, locals := 0 } : Room) s m ([.ref aH, .int x1] : List Value).toArray below meth c H locs 0 0 Q (F0 m 19 ls []) := by
    intro  H locs ls hP hD hS hl hok
    unfold fX4_sizeOf_J19 at hok
    refine lv_iconst (v := 0) hx hb dX4_sizeOf_19 (by decide) ?_
    exact J20 (0 : Int32) H locs ls hP hD hS (lv_sub hl [] rfl) hok
  unfold fX4_sizeOf at hok
  obtain ⟨H, hH⟩ : ∃ H, H = s.heap := ⟨_, rfl⟩
  obtain ⟨locs, hlc⟩ : ∃ x : List Loc, x = [] := ⟨_, rfl⟩
  have hP : va_P D vwCl (wX4_sizeOf cy aH qH vH vH_sizes) H := by rw [hH]; exact hP
  have hS : va_S A s.heap H locs := by rw [hH, hlc]; exact hS
  rw [show W p l e _ s m _ below meth c s.heap [] = W p l e _ s m _ below meth c H locs from by rw [hH, hlc]]
  refine lv_iload_n hx hb dX4_sizeOf_0 rfl (lv_at hl 1 rfl) ?_
  refine lv_if_lt (tgt := 19) hx hb dX4_sizeOf_1 (by decide) (fun c1 => ?_) (fun c1 => ?_)
  · have hok := k_pos c1 hok
    exact J19  H locs ls hP hD hS (lv_sub hl [] rfl) hok
  · have hok := k_neg c1 hok
    refine lv_iload_n hx hb dX4_sizeOf_4 rfl (lv_at hl 1 rfl) ?_
    refine lv_bipush (v := 7) hx hb dX4_sizeOf_5 (by decide) ?_
    refine lv_icmp_ge (tgt := 19) hx hb dX4_sizeOf_7 (by decide) (fun c7 => ?_) (fun c7 => ?_)
    · have hok := k_pos c7 hok
      exact J19  H locs ls hP hD hS (lv_sub hl [] rfl) hok
    · have hok := k_neg c7 hok
      refine lv_aload_n hx hb dX4_sizeOf_10 rfl (lv_at hl 0 rfl) ?_
      refine va_get (D := D) (ci := 3) (v := .ref (qH 15)) (C := RX4) (T := TX4) (N := 20) hx hb ht0 niX4 hown hK hP 0 rfl rfl 15 (by decide) (ht0 _ wd128) (fun _ h9 => h9) rfl dX4_sizeOf_11 ?_
      refine lv_iload_n hx hb dX4_sizeOf_14 rfl (lv_at hl 1 rfl) ?_
      obtain ⟨g15, hok⟩ := gd_some hok
      refine va_iald hx hb hK hP 1 0 rfl rfl (okI_in g15) dX4_sizeOf_15 ?_
      refine lv_goto (tgt := 20) hx hb dX4_sizeOf_16 (by decide) ?_
      exact J20 (vH_sizes x1.toNatClampNeg) H locs ls hP hD hS (lv_sub hl [] rfl) hok
def wsX4_doorSide : List Cond := .code yX4_doorSide cX4_doorSide 3 (some .int) :: W0
abbrev wX4_doorSide (cy : Nat → ClassId) (aH : Nat) (qH : Nat → Nat) (vH : Nat → Int32) (vH_doorOne : Nat → Int32) (vH_doorTwo : Nat → Int32) : va_W := [(aH, oX4 vH qH), (qH 12, rI cy 5 vH_doorOne), (qH 13, rI cy 5 vH_doorTwo)]
set_option maxHeartbeats 4000000 in
set_option maxRecDepth 100000 in
theorem kX4_doorSide (l : Launch) (D : va_G) (cy : Nat → ClassId) (sz : Nat) (aH : Nat) (qH : Nat → Nat) (vH : Nat → Int32) (vH_doorOne : Nat → Int32) (vH_doorTwo : Nat → Int32) (x1 : Int32) (x2 : Int32) (zr : Int32) (hok : fX4_doorSide vH vH_doorOne vH_doorTwo x1 x2 = some zr) (A : Nat → Prop) (hAe : va_A (wX4_doorSide cy aH qH vH vH_doorOne vH_doorTwo) sz = A) : Met l yX4_doorSide wsX4_doorSide ({ frames := 0, cells := 0, slots := 0, locals := 0 } : Room) (kPre D cy [.ref aH, .int x1, .int x2] (wX4_doorSide cy aH qH vH vH_doorOne vH_doorTwo) sz) (kQi D cy zr A (wX4_doorSide cy aH qH vH vH_doorOne vH_doorTwo)) 0 0 A := by
  refine Met.ofW (cc := cX4_doorSide) (maxL := 3) (ret := (some .int)) (by decide) rfl ?_
  intro p e s m args below meth c s₁ B hml hv
  obtain ⟨rfl, hsz, hP, hK, hD0, hN⟩ := hv
  have hx := B.exec
  have hb := B.bytes
  have hr := B.returns
  have ht0 : ∀ w ∈ W0, w.before _ s = true := fun w h => atoms_spec (ws := wsX4_doorSide) B.pre w (List.mem_cons_of_mem _ h)
  have hown : s.vm.findClass RX4 = some m.cls := findClass_of_methodNamed B.named
  have hlocks := B.notSynchronized
  subst hsz
  have hD : va_D A (wX4_doorSide cy aH qH vH vH_doorOne vH_doorTwo) := by rw [← hAe]; exact hD0.self
  have hA : ∀ q : Nat, s.heap.size ≤ q → A q := fun q h => by rw [← hAe]; exact Or.inr h
  have hS : va_S A s.heap s.heap [] := va_S.rf
  have hl := lv_entry ([.ref aH, .int x1, .int x2]) (n := 3) (Nat.le_of_ble_eq_true rfl)
  rw [lg_entry_eq]
  generalize (lg_sl ([.ref aH, .int x1, .int x2]) ++ List.replicate (3 - (lg_sl ([.ref aH, .int x1, .int x2])).length) Slot.unset).toArray = ls at hl ⊢
  have hl : lv_has ls 3 [(0, .ref aH), (1, .int x1), (2, .int x2)] := hl
  generalize hQe : MQ below (kQi D cy zr A (wX4_doorSide cy aH qH vH vH_doorOne vH_doorTwo)) ([.ref aH, .int x1, .int x2] : List Value).toArray s 0 0 A = Q
  have J38 : ∀ (t0_38 : Int32), ∀ (H : Heap) (locs : List Loc) (ls : Array Slot), va_P D vwCl (wX4_doorSide cy aH qH vH vH_doorOne vH_doorTwo) H → va_D A (wX4_doorSide cy aH qH vH vH_doorOne vH_doorTwo) → va_S A s.heap H locs → lv_has ls 3 [] → fX4_doorSide_J38 t0_38 = some zr → W p l e ({ frames := 0, cells := 0, slots := 0, locals := 0 } : Room) s m ([.ref aH, .int x1, .int x2] : List Value).toArray below meth c H locs 0 0 Q (F0 m 38 ls [.int t0_38]) := by
    intro t0_38 H locs ls hP hD hS hl hok
    unfold fX4_doorSide_J38 at hok
    cases hok
    subst hQe; exact W.iret hx hb hr (fun t ht hW => ⟨⟨_, (), rfl, rfl, by rw [ht]; exact hP, va_K.moved hW.alike hK, hD⟩, hS.F ht⟩) hS.2.2 dX4_doorSide_38
  have J17 : ∀ (H : Heap) (locs : List Loc) (ls : Array Slot), va_P D vwCl (wX4_doorSide cy aH qH vH vH_doorOne vH_doorTwo) H → va_D A (wX4_doorSide cy aH qH vH vH_doorOne vH_doorTwo) → va_S A s.heap H locs → lv_has ls 3 [] → fX4_doorSide_J17 = some zr → W p l e ({ frames := 0, cells := 0, slots := 0, locals := 0 } : Room) s m ([.ref aH, .int x1, .int x2] : List Value).toArray below meth c H locs 0 0 Q (F0 m 17 ls []) := by
    intro  H locs ls hP hD hS hl hok
    unfold fX4_doorSide_J17 at hok
    refine lv_iconst (v := 0) hx hb dX4_doorSide_17 (by decide) ?_
    cases hok
    subst hQe; exact W.iret hx hb hr (fun t ht hW => ⟨⟨_, (), rfl, rfl, by rw [ht]; exact hP, va_K.moved hW.alike hK, hD⟩, hS.F ht⟩) hS.2.2 dX4_doorSide_18
  unfold fX4_doorSide at hok
  obtain ⟨H, hH⟩ : ∃ H, H = s.heap := ⟨_, rfl⟩
  obtain ⟨locs, hlc⟩ : ∃ x : List Loc, x = [] := ⟨_, rfl⟩
  have hP : va_P D vwCl (wX4_doorSide cy aH qH vH vH_doorOne vH_doorTwo) H := by rw [hH]; exact hP
  have hS : va_S A s.heap H locs := by rw [hH, hlc]; exact hS
  rw [show W p l e _ s m _ below meth c s.heap [] = W p l e _ s m _ below meth c H locs from by rw [hH, hlc]]
  refine lv_iload_n hx hb dX4_doorSide_0 rfl (lv_at hl 1 rfl) ?_
  refine lv_if_lt (tgt := 17) hx hb dX4_doorSide_1 (by decide) (fun c1 => ?_) (fun c1 => ?_)
  · have hok := k_pos c1 hok
    exact J17  H locs ls hP hD hS (lv_sub hl [] rfl) hok
  · have hok := k_neg c1 hok
    refine lv_iload_n hx hb dX4_doorSide_4 rfl (lv_at hl 1 rfl) ?_
    refine lv_aload_n hx hb dX4_doorSide_5 rfl (lv_at hl 0 rfl) ?_
    refine va_get (D := D) (ci := 3) (v := .int (vH 4)) (C := RX4) (T := TX4) (N := 20) hx hb ht0 niX4 hown hK hP 0 rfl rfl 4 (by decide) (ht0 _ wd161) (fun _ h9 => h9) rfl dX4_doorSide_6 ?_
    refine lv_icmp_ge (tgt := 17) hx hb dX4_doorSide_9 (by decide) (fun c9 => ?_) (fun c9 => ?_)
    · have hok := k_pos c9 hok
      exact J17  H locs ls hP hD hS (lv_sub hl [] rfl) hok
    · have hok := k_neg c9 hok
      refine lv_iload_n hx hb dX4_doorSide_12 rfl (lv_at hl 1 rfl) ?_
      refine lv_iconst (v := 5) hx hb dX4_doorSide_13 (by decide) ?_
      refine lv_icmp_lt (tgt := 19) hx hb dX4_doorSide_14 (by decide) (fun c14 => ?_) (fun c14 => ?_)
      · have hok := k_pos c14 hok
        refine lv_iload_n hx hb dX4_doorSide_19 rfl (lv_at hl 2 rfl) ?_
        refine lv_if_eq (tgt := 32) hx hb dX4_doorSide_20 (by decide) (fun c20 => ?_) (fun c20 => ?_)
        · have hok := k_pos c20 hok
          refine lv_aload_n hx hb dX4_doorSide_32 rfl (lv_at hl 0 rfl) ?_
          refine va_get (D := D) (ci := 3) (v := .ref (qH 12)) (C := RX4) (T := TX4) (N := 20) hx hb ht0 niX4 hown hK hP 0 rfl rfl 12 (by decide) (ht0 _ wd159) (fun _ h9 => h9) rfl dX4_doorSide_33 ?_
          refine lv_iload_n hx hb dX4_doorSide_36 rfl (lv_at hl 1 rfl) ?_
          obtain ⟨g37, hok⟩ := gd_some hok
          refine va_iald hx hb hK hP 1 0 rfl rfl (okI_in g37) dX4_doorSide_37 ?_
          exact J38 (vH_doorOne x1.toNatClampNeg) H locs ls hP hD hS (lv_sub hl [] rfl) hok
        · have hok := k_neg c20 hok
          refine lv_aload_n hx hb dX4_doorSide_23 rfl (lv_at hl 0 rfl) ?_
          refine va_get (D := D) (ci := 3) (v := .ref (qH 13)) (C := RX4) (T := TX4) (N := 20) hx hb ht0 niX4 hown hK hP 0 rfl rfl 13 (by decide) (ht0 _ wd160) (fun _ h9 => h9) rfl dX4_doorSide_24 ?_
          refine lv_iload_n hx hb dX4_doorSide_27 rfl (lv_at hl 1 rfl) ?_
          obtain ⟨g28, hok⟩ := gd_some hok
          refine va_iald hx hb hK hP 2 0 rfl rfl (okI_in g28) dX4_doorSide_28 ?_
          refine lv_goto (tgt := 38) hx hb dX4_doorSide_29 (by decide) ?_
          exact J38 (vH_doorTwo x1.toNatClampNeg) H locs ls hP hD hS (lv_sub hl [] rfl) hok
      · have hok := k_neg c14 hok
        exact J17  H locs ls hP hD hS (lv_sub hl [] rfl) hok
def wsX4_isTaken : List Cond := .code yX4_isTaken cX4_isTaken 3 (some .boolean) :: W0
abbrev wX4_isTaken (cy : Nat → ClassId) (aH : Nat) (qH : Nat → Nat) (vH : Nat → Int32) (vH_firstCells : Nat → Int32) : va_W := [(aH, oX4 vH qH), (qH 16, rI cy 7 vH_firstCells)]
set_option maxHeartbeats 4000000 in
set_option maxRecDepth 100000 in
theorem kX4_isTaken (l : Launch) (D : va_G) (cy : Nat → ClassId) (sz : Nat) (aH : Nat) (qH : Nat → Nat) (vH : Nat → Int32) (vH_firstCells : Nat → Int32) (x1 : Int32) (zr : Int32) (hok : fX4_isTaken vH vH_firstCells x1 = some zr) (A : Nat → Prop) (hAe : va_A (wX4_isTaken cy aH qH vH vH_firstCells) sz = A) : Met l yX4_isTaken wsX4_isTaken ({ frames := 0, cells := 0, slots := 0, locals := 0 } : Room) (kPre D cy [.ref aH, .int x1] (wX4_isTaken cy aH qH vH vH_firstCells) sz) (kQi D cy zr A (wX4_isTaken cy aH qH vH vH_firstCells)) 0 0 A := by
  refine Met.ofW (cc := cX4_isTaken) (maxL := 3) (ret := (some .boolean)) (by decide) rfl ?_
  intro p e s m args below meth c s₁ B hml hv
  obtain ⟨rfl, hsz, hP, hK, hD0, hN⟩ := hv
  have hx := B.exec
  have hb := B.bytes
  have hr := B.returns
  have ht0 : ∀ w ∈ W0, w.before _ s = true := fun w h => atoms_spec (ws := wsX4_isTaken) B.pre w (List.mem_cons_of_mem _ h)
  have hown : s.vm.findClass RX4 = some m.cls := findClass_of_methodNamed B.named
  have hlocks := B.notSynchronized
  subst hsz
  have hD : va_D A (wX4_isTaken cy aH qH vH vH_firstCells) := by rw [← hAe]; exact hD0.self
  have hA : ∀ q : Nat, s.heap.size ≤ q → A q := fun q h => by rw [← hAe]; exact Or.inr h
  have hS : va_S A s.heap s.heap [] := va_S.rf
  have hl := lv_entry ([.ref aH, .int x1]) (n := 3) (Nat.le_of_ble_eq_true rfl)
  rw [lg_entry_eq]
  generalize (lg_sl ([.ref aH, .int x1]) ++ List.replicate (3 - (lg_sl ([.ref aH, .int x1])).length) Slot.unset).toArray = ls at hl ⊢
  have hl : lv_has ls 3 [(0, .ref aH), (1, .int x1)] := hl
  generalize hQe : MQ below (kQi D cy zr A (wX4_isTaken cy aH qH vH vH_firstCells)) ([.ref aH, .int x1] : List Value).toArray s 0 0 A = Q
  have J34 : ∀ (H : Heap) (locs : List Loc) (ls : Array Slot), va_P D vwCl (wX4_isTaken cy aH qH vH vH_firstCells) H → va_D A (wX4_isTaken cy aH qH vH vH_firstCells) → va_S A s.heap H locs → lv_has ls 3 [] → fX4_isTaken_J34 = some zr → W p l e ({ frames := 0, cells := 0, slots := 0, locals := 0 } : Room) s m ([.ref aH, .int x1] : List Value).toArray below meth c H locs 0 0 Q (F0 m 34 ls []) := by
    intro  H locs ls hP hD hS hl hok
    unfold fX4_isTaken_J34 at hok
    refine lv_iconst (v := 0) hx hb dX4_isTaken_34 (by decide) ?_
    cases hok
    subst hQe; exact W.zret hx hb hr rfl (fun t ht hW => ⟨⟨_, (), rfl, rfl, by rw [ht]; exact hP, va_K.moved hW.alike hK, hD⟩, hS.F ht⟩) hS.2.2 dX4_isTaken_35
  have L2 : ∀ (fuel : Nat) (y2_2 : Int32), ∀ (H : Heap) (locs : List Loc) (ls : Array Slot), va_P D vwCl (wX4_isTaken cy aH qH vH vH_firstCells) H → va_D A (wX4_isTaken cy aH qH vH vH_firstCells) → va_S A s.heap H locs → lv_has ls 3 [(0, .ref aH), (1, .int x1), (2, .int y2_2)] → lp (fX4_isTaken_B2 vH vH_firstCells x1) fuel y2_2 = some zr → W p l e ({ frames := 0, cells := 0, slots := 0, locals := 0 } : Room) s m ([.ref aH, .int x1] : List Value).toArray below meth c H locs 0 0 Q (F0 m 2 ls []) := by
    intro fuel
    induction fuel with
    | zero => intro y2_2 H locs ls hP hD hS hl hok; exact (lp_0 hok).elim
    | succ fuel ih2 =>
      intro y2_2 H locs ls hP hD hS hl hok
      obtain ⟨y2, hok, hL2, hR2⟩ := lp_step hok
      unfold fX4_isTaken_B2 at hok
      refine lv_iload_n hx hb dX4_isTaken_2 rfl (lv_at hl 2 rfl) ?_
      refine lv_aload_n hx hb dX4_isTaken_3 rfl (lv_at hl 0 rfl) ?_
      refine va_get (D := D) (ci := 3) (v := .int (vH 5)) (C := RX4) (T := TX4) (N := 20) hx hb ht0 niX4 hown hK hP 0 rfl rfl 5 (by decide) (ht0 _ wd248) (fun _ h9 => h9) rfl dX4_isTaken_4 ?_
      refine lv_icmp_ge (tgt := 34) hx hb dX4_isTaken_7 (by decide) (fun c7 => ?_) (fun c7 => ?_)
      · have hok := k_pos c7 hok
        obtain ⟨e2, hok, he2⟩ := ex_some hok
        have hok := hok.trans (congrArg some (hL2 _ he2))
        exact J34  H locs ls hP hD hS (lv_sub hl [] rfl) hok
      · have hok := k_neg c7 hok
        refine lv_iload_n hx hb dX4_isTaken_10 rfl (lv_at hl 2 rfl) ?_
        refine lv_bipush (v := 7) hx hb dX4_isTaken_11 (by decide) ?_
        refine lv_icmp_ge (tgt := 34) hx hb dX4_isTaken_13 (by decide) (fun c13 => ?_) (fun c13 => ?_)
        · have hok := k_pos c13 hok
          obtain ⟨e2, hok, he2⟩ := ex_some hok
          have hok := hok.trans (congrArg some (hL2 _ he2))
          exact J34  H locs ls hP hD hS (lv_sub hl [] rfl) hok
        · have hok := k_neg c13 hok
          refine lv_aload_n hx hb dX4_isTaken_16 rfl (lv_at hl 0 rfl) ?_
          refine va_get (D := D) (ci := 3) (v := .ref (qH 16)) (C := RX4) (T := TX4) (N := 20) hx hb ht0 niX4 hown hK hP 0 rfl rfl 16 (by decide) (ht0 _ wd47) (fun _ h9 => h9) rfl dX4_isTaken_17 ?_
          refine lv_iload_n hx hb dX4_isTaken_20 rfl (lv_at hl 2 rfl) ?_
          obtain ⟨g21, hok⟩ := gd_some hok
          refine va_iald hx hb hK hP 1 0 rfl rfl (okI_in g21) dX4_isTaken_21 ?_
          refine lv_iload_n hx hb dX4_isTaken_22 rfl (lv_at hl 1 rfl) ?_
          refine lv_icmp_ne (tgt := 28) hx hb dX4_isTaken_23 (by decide) (fun c23 => ?_) (fun c23 => ?_)
          · have hok := k_neg c23 hok
            refine lv_iinc (v := (y2_2 + 1)) (lv' := [(2, .int (y2_2 + 1)), (0, .ref aH), (1, .int x1)]) hx hb dX4_isTaken_28 hl (k := 2) rfl (by first | rfl | decide) (by decide) rfl (fun ls hl => ?_)
            refine lv_goto (tgt := 2) hx hb dX4_isTaken_31 (by decide) ?_
            exact ih2 (y2_2 + 1) H locs ls hP hD hS (lv_sub hl [1, 2, 0] rfl) (hR2 _ (Option.some.inj hok).symm)
          · have hok := k_pos c23 hok
            obtain ⟨e2, hok, he2⟩ := ex_some hok
            have hok := hok.trans (congrArg some (hL2 _ he2))
            refine lv_iconst (v := 1) hx hb dX4_isTaken_26 (by decide) ?_
            cases hok
            subst hQe; exact W.zret hx hb hr rfl (fun t ht hW => ⟨⟨_, (), rfl, rfl, by rw [ht]; exact hP, va_K.moved hW.alike hK, hD⟩, hS.F ht⟩) hS.2.2 dX4_isTaken_27
  unfold fX4_isTaken at hok
  obtain ⟨H, hH⟩ : ∃ H, H = s.heap := ⟨_, rfl⟩
  obtain ⟨locs, hlc⟩ : ∃ x : List Loc, x = [] := ⟨_, rfl⟩
  have hP : va_P D vwCl (wX4_isTaken cy aH qH vH vH_firstCells) H := by rw [hH]; exact hP
  have hS : va_S A s.heap H locs := by rw [hH, hlc]; exact hS
  rw [show W p l e _ s m _ below meth c s.heap [] = W p l e _ s m _ below meth c H locs from by rw [hH, hlc]]
  refine lv_iconst (v := 0) hx hb dX4_isTaken_0 (by decide) ?_
  refine lv_istore_n (lv' := [(2, .int 0), (0, .ref aH), (1, .int x1)]) hx hb dX4_isTaken_1 rfl hl (by decide) rfl (fun ls hl => ?_)
  exact L2 5000 (0 : Int32) H locs ls hP hD hS (lv_sub hl [1, 2, 0] rfl) hok
def wsX4_hasMark : List Cond := .code yX4_hasMark cX4_hasMark 3 (some .boolean) :: W0
abbrev wX4_hasMark (cy : Nat → ClassId) (aH : Nat) (qH : Nat → Nat) (vH : Nat → Int32) (vH_markNights : Nat → Int32) : va_W := [(aH, oX4 vH qH), (qH 17, rI cy 6 vH_markNights)]
set_option maxHeartbeats 4000000 in
set_option maxRecDepth 100000 in
theorem kX4_hasMark (l : Launch) (D : va_G) (cy : Nat → ClassId) (sz : Nat) (aH : Nat) (qH : Nat → Nat) (vH : Nat → Int32) (vH_markNights : Nat → Int32) (x1 : Int32) (zr : Int32) (hok : fX4_hasMark vH vH_markNights x1 = some zr) (A : Nat → Prop) (hAe : va_A (wX4_hasMark cy aH qH vH vH_markNights) sz = A) : Met l yX4_hasMark wsX4_hasMark ({ frames := 0, cells := 0, slots := 0, locals := 0 } : Room) (kPre D cy [.ref aH, .int x1] (wX4_hasMark cy aH qH vH vH_markNights) sz) (kQi D cy zr A (wX4_hasMark cy aH qH vH vH_markNights)) 0 0 A := by
  refine Met.ofW (cc := cX4_hasMark) (maxL := 3) (ret := (some .boolean)) (by decide) rfl ?_
  intro p e s m args below meth c s₁ B hml hv
  obtain ⟨rfl, hsz, hP, hK, hD0, hN⟩ := hv
  have hx := B.exec
  have hb := B.bytes
  have hr := B.returns
  have ht0 : ∀ w ∈ W0, w.before _ s = true := fun w h => atoms_spec (ws := wsX4_hasMark) B.pre w (List.mem_cons_of_mem _ h)
  have hown : s.vm.findClass RX4 = some m.cls := findClass_of_methodNamed B.named
  have hlocks := B.notSynchronized
  subst hsz
  have hD : va_D A (wX4_hasMark cy aH qH vH vH_markNights) := by rw [← hAe]; exact hD0.self
  have hA : ∀ q : Nat, s.heap.size ≤ q → A q := fun q h => by rw [← hAe]; exact Or.inr h
  have hS : va_S A s.heap s.heap [] := va_S.rf
  have hl := lv_entry ([.ref aH, .int x1]) (n := 3) (Nat.le_of_ble_eq_true rfl)
  rw [lg_entry_eq]
  generalize (lg_sl ([.ref aH, .int x1]) ++ List.replicate (3 - (lg_sl ([.ref aH, .int x1])).length) Slot.unset).toArray = ls at hl ⊢
  have hl : lv_has ls 3 [(0, .ref aH), (1, .int x1)] := hl
  generalize hQe : MQ below (kQi D cy zr A (wX4_hasMark cy aH qH vH vH_markNights)) ([.ref aH, .int x1] : List Value).toArray s 0 0 A = Q
  have J34 : ∀ (H : Heap) (locs : List Loc) (ls : Array Slot), va_P D vwCl (wX4_hasMark cy aH qH vH vH_markNights) H → va_D A (wX4_hasMark cy aH qH vH vH_markNights) → va_S A s.heap H locs → lv_has ls 3 [] → fX4_hasMark_J34 = some zr → W p l e ({ frames := 0, cells := 0, slots := 0, locals := 0 } : Room) s m ([.ref aH, .int x1] : List Value).toArray below meth c H locs 0 0 Q (F0 m 34 ls []) := by
    intro  H locs ls hP hD hS hl hok
    unfold fX4_hasMark_J34 at hok
    refine lv_iconst (v := 0) hx hb dX4_hasMark_34 (by decide) ?_
    cases hok
    subst hQe; exact W.zret hx hb hr rfl (fun t ht hW => ⟨⟨_, (), rfl, rfl, by rw [ht]; exact hP, va_K.moved hW.alike hK, hD⟩, hS.F ht⟩) hS.2.2 dX4_hasMark_35
  have L2 : ∀ (fuel : Nat) (y2_2 : Int32), ∀ (H : Heap) (locs : List Loc) (ls : Array Slot), va_P D vwCl (wX4_hasMark cy aH qH vH vH_markNights) H → va_D A (wX4_hasMark cy aH qH vH vH_markNights) → va_S A s.heap H locs → lv_has ls 3 [(0, .ref aH), (1, .int x1), (2, .int y2_2)] → lp (fX4_hasMark_B2 vH vH_markNights x1) fuel y2_2 = some zr → W p l e ({ frames := 0, cells := 0, slots := 0, locals := 0 } : Room) s m ([.ref aH, .int x1] : List Value).toArray below meth c H locs 0 0 Q (F0 m 2 ls []) := by
    intro fuel
    induction fuel with
    | zero => intro y2_2 H locs ls hP hD hS hl hok; exact (lp_0 hok).elim
    | succ fuel ih2 =>
      intro y2_2 H locs ls hP hD hS hl hok
      obtain ⟨y2, hok, hL2, hR2⟩ := lp_step hok
      unfold fX4_hasMark_B2 at hok
      refine lv_iload_n hx hb dX4_hasMark_2 rfl (lv_at hl 2 rfl) ?_
      refine lv_aload_n hx hb dX4_hasMark_3 rfl (lv_at hl 0 rfl) ?_
      refine va_get (D := D) (ci := 3) (v := .int (vH 6)) (C := RX4) (T := TX4) (N := 20) hx hb ht0 niX4 hown hK hP 0 rfl rfl 6 (by decide) (ht0 _ wd1) (fun _ h9 => h9) rfl dX4_hasMark_4 ?_
      refine lv_icmp_ge (tgt := 34) hx hb dX4_hasMark_7 (by decide) (fun c7 => ?_) (fun c7 => ?_)
      · have hok := k_pos c7 hok
        obtain ⟨e2, hok, he2⟩ := ex_some hok
        have hok := hok.trans (congrArg some (hL2 _ he2))
        exact J34  H locs ls hP hD hS (lv_sub hl [] rfl) hok
      · have hok := k_neg c7 hok
        refine lv_iload_n hx hb dX4_hasMark_10 rfl (lv_at hl 2 rfl) ?_
        refine lv_bipush (v := 6) hx hb dX4_hasMark_11 (by decide) ?_
        refine lv_icmp_ge (tgt := 34) hx hb dX4_hasMark_13 (by decide) (fun c13 => ?_) (fun c13 => ?_)
        · have hok := k_pos c13 hok
          obtain ⟨e2, hok, he2⟩ := ex_some hok
          have hok := hok.trans (congrArg some (hL2 _ he2))
          exact J34  H locs ls hP hD hS (lv_sub hl [] rfl) hok
        · have hok := k_neg c13 hok
          refine lv_aload_n hx hb dX4_hasMark_16 rfl (lv_at hl 0 rfl) ?_
          refine va_get (D := D) (ci := 3) (v := .ref (qH 17)) (C := RX4) (T := TX4) (N := 20) hx hb ht0 niX4 hown hK hP 0 rfl rfl 17 (by decide) (ht0 _ wd2) (fun _ h9 => h9) rfl dX4_hasMark_17 ?_
          refine lv_iload_n hx hb dX4_hasMark_20 rfl (lv_at hl 2 rfl) ?_
          obtain ⟨g21, hok⟩ := gd_some hok
          refine va_iald hx hb hK hP 1 0 rfl rfl (okI_in g21) dX4_hasMark_21 ?_
          refine lv_iload_n hx hb dX4_hasMark_22 rfl (lv_at hl 1 rfl) ?_
          refine lv_icmp_ne (tgt := 28) hx hb dX4_hasMark_23 (by decide) (fun c23 => ?_) (fun c23 => ?_)
          · have hok := k_neg c23 hok
            refine lv_iinc (v := (y2_2 + 1)) (lv' := [(2, .int (y2_2 + 1)), (0, .ref aH), (1, .int x1)]) hx hb dX4_hasMark_28 hl (k := 2) rfl (by first | rfl | decide) (by decide) rfl (fun ls hl => ?_)
            refine lv_goto (tgt := 2) hx hb dX4_hasMark_31 (by decide) ?_
            exact ih2 (y2_2 + 1) H locs ls hP hD hS (lv_sub hl [1, 2, 0] rfl) (hR2 _ (Option.some.inj hok).symm)
          · have hok := k_pos c23 hok
            obtain ⟨e2, hok, he2⟩ := ex_some hok
            have hok := hok.trans (congrArg some (hL2 _ he2))
            refine lv_iconst (v := 1) hx hb dX4_hasMark_26 (by decide) ?_
            cases hok
            subst hQe; exact W.zret hx hb hr rfl (fun t ht hW => ⟨⟨_, (), rfl, rfl, by rw [ht]; exact hP, va_K.moved hW.alike hK, hD⟩, hS.F ht⟩) hS.2.2 dX4_hasMark_27
  unfold fX4_hasMark at hok
  obtain ⟨H, hH⟩ : ∃ H, H = s.heap := ⟨_, rfl⟩
  obtain ⟨locs, hlc⟩ : ∃ x : List Loc, x = [] := ⟨_, rfl⟩
  have hP : va_P D vwCl (wX4_hasMark cy aH qH vH vH_markNights) H := by rw [hH]; exact hP
  have hS : va_S A s.heap H locs := by rw [hH, hlc]; exact hS
  rw [show W p l e _ s m _ below meth c s.heap [] = W p l e _ s m _ below meth c H locs from by rw [hH, hlc]]
  refine lv_iconst (v := 0) hx hb dX4_hasMark_0 (by decide) ?_
  refine lv_istore_n (lv' := [(2, .int 0), (0, .ref aH), (1, .int x1)]) hx hb dX4_hasMark_1 rfl hl (by decide) rfl (fun ls hl => ?_)
  exact L2 5000 (0 : Int32) H locs ls hP hD hS (lv_sub hl [1, 2, 0] rfl) hok
def wsX8_cellAt : List Cond := .code yX8_cellAt cX8_cellAt 2 (some .int) :: W0
abbrev wX8_cellAt (cy : Nat → ClassId)  : va_W := []
set_option maxHeartbeats 4000000 in
set_option maxRecDepth 100000 in
theorem kX8_cellAt (l : Launch) (D : va_G) (cy : Nat → ClassId) (sz : Nat) (x0 : Int32) (x1 : Int32) (zr : Int32) (hok : fX8_cellAt x0 x1 = some zr) (A : Nat → Prop) (hAe : va_A (wX8_cellAt cy ) sz = A) : Met l yX8_cellAt wsX8_cellAt ({ frames := 0, cells := 0, slots := 0, locals := 0 } : Room) (kPre D cy [.int x0, .int x1] (wX8_cellAt cy ) sz) (kQi D cy zr A (wX8_cellAt cy )) 0 0 A := by
  refine Met.ofW (cc := cX8_cellAt) (maxL := 2) (ret := (some .int)) (by decide) rfl ?_
  intro p e s m args below meth c s₁ B hml hv
  obtain ⟨rfl, hsz, hP, hK, hD0, hN⟩ := hv
  have hx := B.exec
  have hb := B.bytes
  have hr := B.returns
  have ht0 : ∀ w ∈ W0, w.before _ s = true := fun w h => atoms_spec (ws := wsX8_cellAt) B.pre w (List.mem_cons_of_mem _ h)
  have hown : s.vm.findClass RX8 = some m.cls := findClass_of_methodNamed B.named
  have hlocks := B.notSynchronized
  subst hsz
  have hD : va_D A (wX8_cellAt cy ) := by rw [← hAe]; exact hD0.self
  have hA : ∀ q : Nat, s.heap.size ≤ q → A q := fun q h => by rw [← hAe]; exact Or.inr h
  have hS : va_S A s.heap s.heap [] := va_S.rf
  have hl := lv_entry ([.int x0, .int x1]) (n := 2) (Nat.le_of_ble_eq_true rfl)
  rw [lg_entry_eq]
  generalize (lg_sl ([.int x0, .int x1]) ++ List.replicate (2 - (lg_sl ([.int x0, .int x1])).length) Slot.unset).toArray = ls at hl ⊢
  have hl : lv_has ls 2 [(0, .int x0), (1, .int x1)] := hl
  unfold fX8_cellAt at hok
  obtain ⟨H, hH⟩ : ∃ H, H = s.heap := ⟨_, rfl⟩
  obtain ⟨locs, hlc⟩ : ∃ x : List Loc, x = [] := ⟨_, rfl⟩
  have hP : va_P D vwCl (wX8_cellAt cy ) H := by rw [hH]; exact hP
  have hS : va_S A s.heap H locs := by rw [hH, hlc]; exact hS
  rw [show W p l e _ s m _ below meth c s.heap [] = W p l e _ s m _ below meth c H locs from by rw [hH, hlc]]
  refine lv_iload_n hx hb dX8_cellAt_0 rfl (lv_at hl 0 rfl) ?_
  refine lv_bipush (v := 9) hx hb dX8_cellAt_1 (by decide) ?_
  refine lv_imul hx hb dX8_cellAt_3 ?_
  refine lv_iload_n hx hb dX8_cellAt_4 rfl (lv_at hl 1 rfl) ?_
  refine lv_iadd hx hb dX8_cellAt_5 ?_
  cases hok
  exact W.iret hx hb hr (fun t ht hW => ⟨⟨_, (), rfl, rfl, by rw [ht]; exact hP, va_K.moved hW.alike hK, hD⟩, hS.F ht⟩) hS.2.2 dX8_cellAt_6
def wsX4_addRing : List Cond := .code yX4_addRing cX4_addRing 6 none :: W0
abbrev wX4_addRing (cy : Nat → ClassId) (aH : Nat) (qH : Nat → Nat) (vH : Nat → Int32) (vH_sorts : Nat → Int32) (vH_places : Nat → Int32) (vH_next : Nat → Int32) : va_W := [(aH, oX4 vH qH), (qH 8, rI cy 4 vH_sorts), (qH 9, rI cy 4 vH_places), (qH 10, rI cy 36 vH_next)]
set_option maxHeartbeats 4000000 in
set_option maxRecDepth 100000 in
theorem kX4_addRing (l : Launch) (D : va_G) (cy : Nat → ClassId) (sz : Nat) (aH : Nat) (qH : Nat → Nat) (vH : Nat → Int32) (vH_sorts : Nat → Int32) (vH_places : Nat → Int32) (vH_next : Nat → Int32) (x1 : Int32) (x2 : Int32) (z_vH : Nat → Int32) (z_vH_sorts : Nat → Int32) (z_vH_places : Nat → Int32) (z_vH_next : Nat → Int32) (hok : fX4_addRing vH vH_sorts vH_places vH_next x1 x2 = some (z_vH, z_vH_sorts, z_vH_places, z_vH_next)) (A : Nat → Prop) (hAe : va_A (wX4_addRing cy aH qH vH vH_sorts vH_places vH_next) sz = A) : Met l yX4_addRing wsX4_addRing ({ frames := 1, cells := 0, slots := 0, locals := 21 } : Room) (kPre D cy [.ref aH, .int x1, .int x2] (wX4_addRing cy aH qH vH vH_sorts vH_places vH_next) sz) (kQv D cy A (wX4_addRing cy aH qH z_vH z_vH_sorts z_vH_places z_vH_next)) 0 0 A := by
  refine Met.ofW (cc := cX4_addRing) (maxL := 6) (ret := none) (by decide) rfl ?_
  intro p e s m args below meth c s₁ B hml hv
  obtain ⟨rfl, hsz, hP, hK, hD0, hN⟩ := hv
  have hx := B.exec
  have hb := B.bytes
  have hr := B.returns
  have ht0 : ∀ w ∈ W0, w.before _ s = true := fun w h => atoms_spec (ws := wsX4_addRing) B.pre w (List.mem_cons_of_mem _ h)
  have hown : s.vm.findClass RX4 = some m.cls := findClass_of_methodNamed B.named
  have hlocks := B.notSynchronized
  subst hsz
  have hD : va_D A (wX4_addRing cy aH qH vH vH_sorts vH_places vH_next) := by rw [← hAe]; exact hD0.self
  have hA : ∀ q : Nat, s.heap.size ≤ q → A q := fun q h => by rw [← hAe]; exact Or.inr h
  have hS : va_S A s.heap s.heap [] := va_S.rf
  have hl := lv_entry ([.ref aH, .int x1, .int x2]) (n := 6) (Nat.le_of_ble_eq_true rfl)
  rw [lg_entry_eq]
  generalize (lg_sl ([.ref aH, .int x1, .int x2]) ++ List.replicate (6 - (lg_sl ([.ref aH, .int x1, .int x2])).length) Slot.unset).toArray = ls at hl ⊢
  have hl : lv_has ls 6 [(0, .ref aH), (1, .int x1), (2, .int x2)] := hl
  generalize hQe : MQ below (kQv D cy A (wX4_addRing cy aH qH z_vH z_vH_sorts z_vH_places z_vH_next)) ([.ref aH, .int x1, .int x2] : List Value).toArray s 0 0 A = Q
  have L29 : ∀ (fuel : Nat) (y3_29 : Int32) (vH_next_29 : Nat → Int32), ∀ (H : Heap) (locs : List Loc) (ls : Array Slot), va_P D vwCl (wX4_addRing cy aH qH vH vH_sorts vH_places vH_next_29) H → va_D A (wX4_addRing cy aH qH vH vH_sorts vH_places vH_next_29) → va_S A s.heap H locs → lv_has ls 6 [(0, .ref aH), (1, .int x1), (2, .int x2), (3, .int y3_29)] → lp (fX4_addRing_B29 vH vH_sorts vH_places x1 x2) fuel (y3_29, vH_next_29) = some (z_vH, z_vH_sorts, z_vH_places, z_vH_next) → W p l e ({ frames := 1, cells := 0, slots := 0, locals := 21 } : Room) s m ([.ref aH, .int x1, .int x2] : List Value).toArray below meth c H locs 0 0 Q (F0 m 29 ls []) := by
    intro fuel
    induction fuel with
    | zero => intro y3_29 vH_next_29 H locs ls hP hD hS hl hok; exact (lp_0 hok).elim
    | succ fuel ih29 =>
      intro y3_29 vH_next_29 H locs ls hP hD hS hl hok
      obtain ⟨y29, hok, hL29, hR29⟩ := lp_step hok
      have J93 : ∀ (t0_93 : Int32) (t2_93 : Int32), ∀ (H : Heap) (locs : List Loc) (ls : Array Slot), va_P D vwCl (wX4_addRing cy aH qH vH vH_sorts vH_places vH_next_29) H → va_D A (wX4_addRing cy aH qH vH vH_sorts vH_places vH_next_29) → va_S A s.heap H locs → lv_has ls 6 [(0, .ref aH), (1, .int x1), (2, .int x2), (3, .int y3_29)] → fX4_addRing_J93 vH y3_29 vH_next_29 t0_93 t2_93 = some y29 → W p l e ({ frames := 1, cells := 0, slots := 0, locals := 21 } : Room) s m ([.ref aH, .int x1, .int x2] : List Value).toArray below meth c H locs 0 0 Q (F0 m 93 ls [.int t0_93, .int (vH 2), .int t2_93, .ref (qH 10)]) := by
        intro t0_93 t2_93 H locs ls hP hD hS hl hok
        unfold fX4_addRing_J93 at hok
        obtain ⟨r93, hc93, hok⟩ := k_bind hok
        refine kCi (wc := (wX8_cellAt cy )) (wc2 := (wX8_cellAt cy )) (wr := [(aH, oX4 vH qH), (qH 8, rI cy 4 vH_sorts), (qH 9, rI cy 4 vH_places), (qH 10, rI cy 36 vH_next_29)]) (ws2 := (wX4_addRing cy aH qH vH vH_sorts vH_places vH_next_29)) (kRunSN (As := [.int (vH 2), .int t0_93]) (rest := [.int t2_93, .ref (qH 10)]) ⟨hx, hb, hml, hown, ht0⟩ (kX8_cellAt l D cy _ (vH 2) t0_93 r93 hc93 _ rfl) ⟨va_cnB 2 ht0 (gN wd260) rfl rfl rfl (hN _ (List.mem_of_getElem? (i := 4) rfl)) (ht0 _ wd57) (by decide +kernel) ⟨Nat.le_of_ble_eq_true rfl, Nat.le_of_ble_eq_true rfl⟩, ht0 _ wd261, trivial⟩ hK hN hP hD [] rfl (by decide) rfl hl.1 rfl (Nat.le_of_ble_eq_true rfl) dX4_addRing_93 ⟨Nat.zero_le _, Nat.zero_le _⟩) hP hD hS hA [] [0, 1, 2, 3] rfl rfl (by decide) (by decide) [0, 1, 2, 3] (by decide) rfl rfl (fun H locs hP hD hS => ?_)
        obtain ⟨g96, hok⟩ := gd_some hok
        refine va_iast hx hb hK hP hD hS 3 0 rfl rfl (okI_in g96) dX4_addRing_96 (fun H locs hP hD hS => ?_)
        have hP : va_P D vwCl (wX4_addRing cy aH qH vH vH_sorts vH_places (upd vH_next_29 t2_93.toNatClampNeg r93)) H := hP
        have hD : va_D A (wX4_addRing cy aH qH vH vH_sorts vH_places (upd vH_next_29 t2_93.toNatClampNeg r93)) := hD
        refine lv_iinc (v := (y3_29 + 1)) (lv' := [(3, .int (y3_29 + 1)), (0, .ref aH), (1, .int x1), (2, .int x2)]) hx hb dX4_addRing_97 hl (k := 3) rfl (by first | rfl | decide) (by decide) rfl (fun ls hl => ?_)
        refine lv_goto (tgt := 29) hx hb dX4_addRing_100 (by decide) ?_
        exact ih29 (y3_29 + 1) (upd vH_next_29 t2_93.toNatClampNeg r93) H locs ls hP hD hS (lv_sub hl [1, 2, 3, 0] rfl) (hR29 _ (Option.some.inj hok).symm)
      have J63 : ∀ (y4_63 : Int32) (t0_63 : Int32), ∀ (H : Heap) (locs : List Loc) (ls : Array Slot), va_P D vwCl (wX4_addRing cy aH qH vH vH_sorts vH_places vH_next_29) H → va_D A (wX4_addRing cy aH qH vH vH_sorts vH_places vH_next_29) → va_S A s.heap H locs → lv_has ls 6 [(0, .ref aH), (1, .int x1), (2, .int x2), (3, .int y3_29), (4, .int y4_63)] → fX4_addRing_J63 vH x1 y3_29 vH_next_29 y4_63 t0_63 = some y29 → W p l e ({ frames := 1, cells := 0, slots := 0, locals := 21 } : Room) s m ([.ref aH, .int x1, .int x2] : List Value).toArray below meth c H locs 0 0 Q (F0 m 63 ls [.int t0_63]) := by
        intro y4_63 t0_63 H locs ls hP hD hS hl hok
        unfold fX4_addRing_J63 at hok
        refine lv_istore (lv' := [(5, .int t0_63), (0, .ref aH), (1, .int x1), (2, .int x2), (3, .int y3_29), (4, .int y4_63)]) hx hb dX4_addRing_63 hl (by decide) rfl (fun ls hl => ?_)
        refine lv_aload_n hx hb dX4_addRing_65 rfl (lv_at hl 1 rfl) ?_
        refine va_get (D := D) (ci := 3) (v := .ref (qH 10)) (C := RX4) (T := TX4) (N := 20) hx hb ht0 niX4 hown hK hP 0 rfl rfl 10 (by decide) (ht0 _ wd127) (fun _ h9 => h9) rfl dX4_addRing_66 ?_
        refine lv_aload_n hx hb dX4_addRing_69 rfl (lv_at hl 1 rfl) ?_
        refine va_get (D := D) (ci := 3) (v := .int (vH 2)) (C := RX4) (T := TX4) (N := 20) hx hb ht0 niX4 hown hK hP 0 rfl rfl 2 (by decide) (ht0 _ wd93) (fun _ h9 => h9) rfl dX4_addRing_70 ?_
        refine lv_iload_n hx hb dX4_addRing_73 rfl (lv_at hl 4 rfl) ?_
        obtain ⟨r74, hc74, hok⟩ := k_bind hok
        refine kCi (wc := (wX8_cellAt cy )) (wc2 := (wX8_cellAt cy )) (wr := [(aH, oX4 vH qH), (qH 8, rI cy 4 vH_sorts), (qH 9, rI cy 4 vH_places), (qH 10, rI cy 36 vH_next_29)]) (ws2 := (wX4_addRing cy aH qH vH vH_sorts vH_places vH_next_29)) (kRunSN (As := [.int (vH 2), .int y3_29]) (rest := [.ref (qH 10)]) ⟨hx, hb, hml, hown, ht0⟩ (kX8_cellAt l D cy _ (vH 2) y3_29 r74 hc74 _ rfl) ⟨va_cnB 2 ht0 (gN wd260) rfl rfl rfl (hN _ (List.mem_of_getElem? (i := 4) rfl)) (ht0 _ wd57) (by decide +kernel) ⟨Nat.le_of_ble_eq_true rfl, Nat.le_of_ble_eq_true rfl⟩, ht0 _ wd261, trivial⟩ hK hN hP hD [] rfl (by decide) rfl hl.1 rfl (Nat.le_of_ble_eq_true rfl) dX4_addRing_74 ⟨Nat.zero_le _, Nat.zero_le _⟩) hP hD hS hA [] [0, 1, 2, 3] rfl rfl (by decide) (by decide) [0, 1, 2, 3] (by decide) rfl rfl (fun H locs hP hD hS => ?_)
        refine lv_aload_n hx hb dX4_addRing_77 rfl (lv_at hl 1 rfl) ?_
        refine va_get (D := D) (ci := 3) (v := .int (vH 2)) (C := RX4) (T := TX4) (N := 20) hx hb ht0 niX4 hown hK hP 0 rfl rfl 2 (by decide) (ht0 _ wd93) (fun _ h9 => h9) rfl dX4_addRing_78 ?_
        refine lv_iload_n hx hb dX4_addRing_81 rfl (lv_at hl 2 rfl) ?_
        refine lv_iconst (v := 2) hx hb dX4_addRing_82 (by decide) ?_
        refine lv_icmp_ne (tgt := 91) hx hb dX4_addRing_83 (by decide) (fun c83 => ?_) (fun c83 => ?_)
        · have hok := k_neg c83 hok
          refine lv_iload hx hb dX4_addRing_91 (lv_at hl 5 rfl) ?_
          exact J93 y4_63 r74 H locs ls hP hD hS (lv_sub hl [1, 2, 3, 4] rfl) hok
        · have hok := k_pos c83 hok
          refine lv_iload hx hb dX4_addRing_86 (lv_at hl 0 rfl) ?_
          refine lv_goto (tgt := 93) hx hb dX4_addRing_88 (by decide) ?_
          exact J93 t0_63 r74 H locs ls hP hD hS (lv_sub hl [1, 2, 3, 4] rfl) hok
      have J48 : ∀ (t0_48 : Int32), ∀ (H : Heap) (locs : List Loc) (ls : Array Slot), va_P D vwCl (wX4_addRing cy aH qH vH vH_sorts vH_places vH_next_29) H → va_D A (wX4_addRing cy aH qH vH vH_sorts vH_places vH_next_29) → va_S A s.heap H locs → lv_has ls 6 [(0, .ref aH), (1, .int x1), (2, .int x2), (3, .int y3_29)] → fX4_addRing_J48 vH x1 x2 y3_29 vH_next_29 t0_48 = some y29 → W p l e ({ frames := 1, cells := 0, slots := 0, locals := 21 } : Room) s m ([.ref aH, .int x1, .int x2] : List Value).toArray below meth c H locs 0 0 Q (F0 m 48 ls [.int t0_48]) := by
        intro t0_48 H locs ls hP hD hS hl hok
        unfold fX4_addRing_J48 at hok
        refine lv_istore (lv' := [(4, .int t0_48), (0, .ref aH), (1, .int x1), (2, .int x2), (3, .int y3_29)]) hx hb dX4_addRing_48 hl (by decide) rfl (fun ls hl => ?_)
        refine lv_iload_n hx hb dX4_addRing_50 rfl (lv_at hl 4 rfl) ?_
        refine lv_if_le (tgt := 60) hx hb dX4_addRing_51 (by decide) (fun c51 => ?_) (fun c51 => ?_)
        · have hok := k_pos c51 hok
          refine lv_iload_n hx hb dX4_addRing_60 rfl (lv_at hl 3 rfl) ?_
          refine lv_iconst (v := 1) hx hb dX4_addRing_61 (by decide) ?_
          refine lv_isub hx hb dX4_addRing_62 ?_
          exact J63 t0_48 (x2 - (1 : Int32)) H locs ls hP hD hS (lv_sub hl [1, 2, 3, 4, 0] rfl) hok
        · have hok := k_neg c51 hok
          refine lv_iload_n hx hb dX4_addRing_54 rfl (lv_at hl 4 rfl) ?_
          refine lv_iconst (v := 1) hx hb dX4_addRing_55 (by decide) ?_
          refine lv_isub hx hb dX4_addRing_56 ?_
          refine lv_goto (tgt := 63) hx hb dX4_addRing_57 (by decide) ?_
          exact J63 t0_48 (y3_29 - (1 : Int32)) H locs ls hP hD hS (lv_sub hl [1, 2, 3, 4, 0] rfl) hok
      unfold fX4_addRing_B29 at hok
      try dsimp only at hok
      refine lv_iload_n hx hb dX4_addRing_29 rfl (lv_at hl 3 rfl) ?_
      refine lv_iload_n hx hb dX4_addRing_30 rfl (lv_at hl 2 rfl) ?_
      refine lv_icmp_ge (tgt := 103) hx hb dX4_addRing_31 (by decide) (fun c31 => ?_) (fun c31 => ?_)
      · have hok := k_pos c31 hok
        obtain ⟨e29, hok, he29⟩ := ex_some hok
        have hok := hok.trans (congrArg some (hL29 _ he29))
        refine lv_aload_n hx hb dX4_addRing_103 rfl (lv_at hl 0 rfl) ?_
        refine va_get (D := D) (ci := 3) (v := .ref (qH 8)) (C := RX4) (T := TX4) (N := 20) hx hb ht0 niX4 hown hK hP 0 rfl rfl 8 (by decide) (ht0 _ wd98) (fun _ h9 => h9) rfl dX4_addRing_104 ?_
        refine lv_aload_n hx hb dX4_addRing_107 rfl (lv_at hl 0 rfl) ?_
        refine va_get (D := D) (ci := 3) (v := .int (vH 2)) (C := RX4) (T := TX4) (N := 20) hx hb ht0 niX4 hown hK hP 0 rfl rfl 2 (by decide) (ht0 _ wd93) (fun _ h9 => h9) rfl dX4_addRing_108 ?_
        refine lv_iload_n hx hb dX4_addRing_111 rfl (lv_at hl 1 rfl) ?_
        obtain ⟨g112, hok⟩ := gd_some hok
        refine va_iast hx hb hK hP hD hS 1 0 rfl rfl (okI_in g112) dX4_addRing_112 (fun H locs hP hD hS => ?_)
        have hP : va_P D vwCl (wX4_addRing cy aH qH vH (upd vH_sorts (vH 2).toNatClampNeg x1) vH_places vH_next_29) H := hP
        have hD : va_D A (wX4_addRing cy aH qH vH (upd vH_sorts (vH 2).toNatClampNeg x1) vH_places vH_next_29) := hD
        refine lv_aload_n hx hb dX4_addRing_113 rfl (lv_at hl 0 rfl) ?_
        refine va_get (D := D) (ci := 3) (v := .ref (qH 9)) (C := RX4) (T := TX4) (N := 20) hx hb ht0 niX4 hown hK hP 0 rfl rfl 9 (by decide) (ht0 _ wd255) (fun _ h9 => h9) rfl dX4_addRing_114 ?_
        refine lv_aload_n hx hb dX4_addRing_117 rfl (lv_at hl 0 rfl) ?_
        refine va_get (D := D) (ci := 3) (v := .int (vH 2)) (C := RX4) (T := TX4) (N := 20) hx hb ht0 niX4 hown hK hP 0 rfl rfl 2 (by decide) (ht0 _ wd93) (fun _ h9 => h9) rfl dX4_addRing_118 ?_
        refine lv_iload_n hx hb dX4_addRing_121 rfl (lv_at hl 2 rfl) ?_
        obtain ⟨g122, hok⟩ := gd_some hok
        refine va_iast hx hb hK hP hD hS 2 0 rfl rfl (okI_in g122) dX4_addRing_122 (fun H locs hP hD hS => ?_)
        have hP : va_P D vwCl (wX4_addRing cy aH qH vH (upd vH_sorts (vH 2).toNatClampNeg x1) (upd vH_places (vH 2).toNatClampNeg x2) vH_next_29) H := hP
        have hD : va_D A (wX4_addRing cy aH qH vH (upd vH_sorts (vH 2).toNatClampNeg x1) (upd vH_places (vH 2).toNatClampNeg x2) vH_next_29) := hD
        refine lv_aload_n hx hb dX4_addRing_123 rfl (lv_at hl 0 rfl) ?_
        refine lv_dup hx hb dX4_addRing_124 rfl ?_
        refine va_get (D := D) (ci := 3) (v := .int (vH 2)) (C := RX4) (T := TX4) (N := 20) hx hb ht0 niX4 hown hK hP 0 rfl rfl 2 (by decide) (ht0 _ wd93) (fun _ h9 => h9) rfl dX4_addRing_125 ?_
        refine lv_iconst (v := 1) hx hb dX4_addRing_128 (by decide) ?_
        refine lv_iadd hx hb dX4_addRing_129 ?_
        refine va_put (D := D) (ci := 3) (v := .int ((vH 2) + (1 : Int32))) (ty := .int) (C := RX4) (T := TX4) (N := 20) hx hb ht0 niX4 tyX4 tyX4_ok nmX4 hown hK hP hD hS 0 rfl rfl 2 (by decide) (ht0 _ wd93) (fun _ h9 => h9) rfl (by decide +kernel) rfl rfl (Nat.le_of_ble_eq_true rfl) dX4_addRing_130 (fun H locs hP hD hS => ?_)
        have hP : va_P D vwCl (wX4_addRing cy aH qH (upd vH 2 ((vH 2) + (1 : Int32))) (upd vH_sorts (vH 2).toNatClampNeg x1) (upd vH_places (vH 2).toNatClampNeg x2) vH_next_29) H := hP
        have hD : va_D A (wX4_addRing cy aH qH (upd vH 2 ((vH 2) + (1 : Int32))) (upd vH_sorts (vH 2).toNatClampNeg x1) (upd vH_places (vH 2).toNatClampNeg x2) vH_next_29) := hD
        cases hok
        subst hQe; exact W.vret hx hb hr (fun t ht hW => ⟨⟨(), rfl, trivial, by rw [ht]; exact hP, va_K.moved hW.alike hK, hD⟩, hS.F ht⟩) hS.2.2 dX4_addRing_133
      · have hok := k_neg c31 hok
        refine lv_iload_n hx hb dX4_addRing_34 rfl (lv_at hl 3 rfl) ?_
        refine lv_iconst (v := 1) hx hb dX4_addRing_35 (by decide) ?_
        refine lv_iadd hx hb dX4_addRing_36 ?_
        refine lv_iload_n hx hb dX4_addRing_37 rfl (lv_at hl 2 rfl) ?_
        refine lv_icmp_ge (tgt := 47) hx hb dX4_addRing_38 (by decide) (fun c38 => ?_) (fun c38 => ?_)
        · have hok := k_pos c38 hok
          refine lv_iconst (v := 0) hx hb dX4_addRing_47 (by decide) ?_
          exact J48 (0 : Int32) H locs ls hP hD hS (lv_sub hl [0, 1, 2, 3] rfl) hok
        · have hok := k_neg c38 hok
          refine lv_iload_n hx hb dX4_addRing_41 rfl (lv_at hl 3 rfl) ?_
          refine lv_iconst (v := 1) hx hb dX4_addRing_42 (by decide) ?_
          refine lv_iadd hx hb dX4_addRing_43 ?_
          refine lv_goto (tgt := 48) hx hb dX4_addRing_44 (by decide) ?_
          exact J48 (y3_29 + (1 : Int32)) H locs ls hP hD hS (lv_sub hl [0, 1, 2, 3] rfl) hok
  have J26 : ∀ (H : Heap) (locs : List Loc) (ls : Array Slot), va_P D vwCl (wX4_addRing cy aH qH vH vH_sorts vH_places vH_next) H → va_D A (wX4_addRing cy aH qH vH vH_sorts vH_places vH_next) → va_S A s.heap H locs → lv_has ls 6 [] → fX4_addRing_J26 vH vH_sorts vH_places vH_next = some (z_vH, z_vH_sorts, z_vH_places, z_vH_next) → W p l e ({ frames := 1, cells := 0, slots := 0, locals := 21 } : Room) s m ([.ref aH, .int x1, .int x2] : List Value).toArray below meth c H locs 0 0 Q (F0 m 26 ls []) := by
    intro  H locs ls hP hD hS hl hok
    unfold fX4_addRing_J26 at hok
    cases hok
    subst hQe; exact W.vret hx hb hr (fun t ht hW => ⟨⟨(), rfl, trivial, by rw [ht]; exact hP, va_K.moved hW.alike hK, hD⟩, hS.F ht⟩) hS.2.2 dX4_addRing_26
  unfold fX4_addRing at hok
  obtain ⟨H, hH⟩ : ∃ H, H = s.heap := ⟨_, rfl⟩
  obtain ⟨locs, hlc⟩ : ∃ x : List Loc, x = [] := ⟨_, rfl⟩
  have hP : va_P D vwCl (wX4_addRing cy aH qH vH vH_sorts vH_places vH_next) H := by rw [hH]; exact hP
  have hS : va_S A s.heap H locs := by rw [hH, hlc]; exact hS
  rw [show W p l e _ s m _ below meth c s.heap [] = W p l e _ s m _ below meth c H locs from by rw [hH, hlc]]
  refine lv_aload_n hx hb dX4_addRing_0 rfl (lv_at hl 0 rfl) ?_
  refine va_get (D := D) (ci := 3) (v := .int (vH 2)) (C := RX4) (T := TX4) (N := 20) hx hb ht0 niX4 hown hK hP 0 rfl rfl 2 (by decide) (ht0 _ wd93) (fun _ h9 => h9) rfl dX4_addRing_1 ?_
  refine lv_if_lt (tgt := 26) hx hb dX4_addRing_4 (by decide) (fun c4 => ?_) (fun c4 => ?_)
  · have hok := k_pos c4 hok
    exact J26  H locs ls hP hD hS (lv_sub hl [] rfl) hok
  · have hok := k_neg c4 hok
    refine lv_aload_n hx hb dX4_addRing_7 rfl (lv_at hl 0 rfl) ?_
    refine va_get (D := D) (ci := 3) (v := .int (vH 2)) (C := RX4) (T := TX4) (N := 20) hx hb ht0 niX4 hown hK hP 0 rfl rfl 2 (by decide) (ht0 _ wd93) (fun _ h9 => h9) rfl dX4_addRing_8 ?_
    refine lv_iconst (v := 4) hx hb dX4_addRing_11 (by decide) ?_
    refine lv_icmp_ge (tgt := 26) hx hb dX4_addRing_12 (by decide) (fun c12 => ?_) (fun c12 => ?_)
    · have hok := k_pos c12 hok
      exact J26  H locs ls hP hD hS (lv_sub hl [] rfl) hok
    · have hok := k_neg c12 hok
      refine lv_iload_n hx hb dX4_addRing_15 rfl (lv_at hl 2 rfl) ?_
      refine lv_iconst (v := 1) hx hb dX4_addRing_16 (by decide) ?_
      refine lv_icmp_lt (tgt := 26) hx hb dX4_addRing_17 (by decide) (fun c17 => ?_) (fun c17 => ?_)
      · have hok := k_pos c17 hok
        exact J26  H locs ls hP hD hS (lv_sub hl [] rfl) hok
      · have hok := k_neg c17 hok
        refine lv_iload_n hx hb dX4_addRing_20 rfl (lv_at hl 2 rfl) ?_
        refine lv_bipush (v := 9) hx hb dX4_addRing_21 (by decide) ?_
        refine lv_icmp_le (tgt := 27) hx hb dX4_addRing_23 (by decide) (fun c23 => ?_) (fun c23 => ?_)
        · have hok := k_pos c23 hok
          refine lv_iconst (v := 0) hx hb dX4_addRing_27 (by decide) ?_
          refine lv_istore_n (lv' := [(3, .int 0), (0, .ref aH), (1, .int x1), (2, .int x2)]) hx hb dX4_addRing_28 rfl hl (by decide) rfl (fun ls hl => ?_)
          exact L29 5000 (0 : Int32) vH_next H locs ls hP hD hS (lv_sub hl [1, 2, 3, 0] rfl) hok
        · have hok := k_neg c23 hok
          exact J26  H locs ls hP hD hS (lv_sub hl [] rfl) hok
def wsX4_addNarrow : List Cond := .code yX4_addNarrow cX4_addNarrow 3 none :: W0
abbrev wX4_addNarrow (cy : Nat → ClassId) (aH : Nat) (qH : Nat → Nat) (vH : Nat → Int32) (vH_width : Nat → Int32) : va_W := [(aH, oX4 vH qH), (qH 11, rI cy 36 vH_width)]
set_option maxHeartbeats 4000000 in
set_option maxRecDepth 100000 in
theorem kX4_addNarrow (l : Launch) (D : va_G) (cy : Nat → ClassId) (sz : Nat) (aH : Nat) (qH : Nat → Nat) (vH : Nat → Int32) (vH_width : Nat → Int32) (x1 : Int32) (x2 : Int32) (z_vH : Nat → Int32) (z_vH_width : Nat → Int32) (hok : fX4_addNarrow vH vH_width x1 x2 = some (z_vH, z_vH_width)) (A : Nat → Prop) (hAe : va_A (wX4_addNarrow cy aH qH vH vH_width) sz = A) : Met l yX4_addNarrow wsX4_addNarrow ({ frames := 0, cells := 0, slots := 0, locals := 0 } : Room) (kPre D cy [.ref aH, .int x1, .int x2] (wX4_addNarrow cy aH qH vH vH_width) sz) (kQv D cy A (wX4_addNarrow cy aH qH z_vH z_vH_width)) 0 0 A := by
  refine Met.ofW (cc := cX4_addNarrow) (maxL := 3) (ret := none) (by decide) rfl ?_
  intro p e s m args below meth c s₁ B hml hv
  obtain ⟨rfl, hsz, hP, hK, hD0, hN⟩ := hv
  have hx := B.exec
  have hb := B.bytes
  have hr := B.returns
  have ht0 : ∀ w ∈ W0, w.before _ s = true := fun w h => atoms_spec (ws := wsX4_addNarrow) B.pre w (List.mem_cons_of_mem _ h)
  have hown : s.vm.findClass RX4 = some m.cls := findClass_of_methodNamed B.named
  have hlocks := B.notSynchronized
  subst hsz
  have hD : va_D A (wX4_addNarrow cy aH qH vH vH_width) := by rw [← hAe]; exact hD0.self
  have hA : ∀ q : Nat, s.heap.size ≤ q → A q := fun q h => by rw [← hAe]; exact Or.inr h
  have hS : va_S A s.heap s.heap [] := va_S.rf
  have hl := lv_entry ([.ref aH, .int x1, .int x2]) (n := 3) (Nat.le_of_ble_eq_true rfl)
  rw [lg_entry_eq]
  generalize (lg_sl ([.ref aH, .int x1, .int x2]) ++ List.replicate (3 - (lg_sl ([.ref aH, .int x1, .int x2])).length) Slot.unset).toArray = ls at hl ⊢
  have hl : lv_has ls 3 [(0, .ref aH), (1, .int x1), (2, .int x2)] := hl
  generalize hQe : MQ below (kQv D cy A (wX4_addNarrow cy aH qH z_vH z_vH_width)) ([.ref aH, .int x1, .int x2] : List Value).toArray s 0 0 A = Q
  have J19 : ∀ (H : Heap) (locs : List Loc) (ls : Array Slot), va_P D vwCl (wX4_addNarrow cy aH qH vH vH_width) H → va_D A (wX4_addNarrow cy aH qH vH vH_width) → va_S A s.heap H locs → lv_has ls 3 [] → fX4_addNarrow_J19 vH vH_width = some (z_vH, z_vH_width) → W p l e ({ frames := 0, cells := 0, slots := 0, locals := 0 } : Room) s m ([.ref aH, .int x1, .int x2] : List Value).toArray below meth c H locs 0 0 Q (F0 m 19 ls []) := by
    intro  H locs ls hP hD hS hl hok
    unfold fX4_addNarrow_J19 at hok
    cases hok
    subst hQe; exact W.vret hx hb hr (fun t ht hW => ⟨⟨(), rfl, trivial, by rw [ht]; exact hP, va_K.moved hW.alike hK, hD⟩, hS.F ht⟩) hS.2.2 dX4_addNarrow_19
  unfold fX4_addNarrow at hok
  obtain ⟨H, hH⟩ : ∃ H, H = s.heap := ⟨_, rfl⟩
  obtain ⟨locs, hlc⟩ : ∃ x : List Loc, x = [] := ⟨_, rfl⟩
  have hP : va_P D vwCl (wX4_addNarrow cy aH qH vH vH_width) H := by rw [hH]; exact hP
  have hS : va_S A s.heap H locs := by rw [hH, hlc]; exact hS
  rw [show W p l e _ s m _ below meth c s.heap [] = W p l e _ s m _ below meth c H locs from by rw [hH, hlc]]
  refine lv_iload_n hx hb dX4_addNarrow_0 rfl (lv_at hl 1 rfl) ?_
  refine lv_if_lt (tgt := 19) hx hb dX4_addNarrow_1 (by decide) (fun c1 => ?_) (fun c1 => ?_)
  · have hok := k_pos c1 hok
    exact J19  H locs ls hP hD hS (lv_sub hl [] rfl) hok
  · have hok := k_neg c1 hok
    refine lv_iload_n hx hb dX4_addNarrow_4 rfl (lv_at hl 1 rfl) ?_
    refine lv_bipush (v := 36) hx hb dX4_addNarrow_5 (by decide) ?_
    refine lv_icmp_ge (tgt := 19) hx hb dX4_addNarrow_7 (by decide) (fun c7 => ?_) (fun c7 => ?_)
    · have hok := k_pos c7 hok
      exact J19  H locs ls hP hD hS (lv_sub hl [] rfl) hok
    · have hok := k_neg c7 hok
      refine lv_aload_n hx hb dX4_addNarrow_10 rfl (lv_at hl 0 rfl) ?_
      refine va_get (D := D) (ci := 3) (v := .int (vH 3)) (C := RX4) (T := TX4) (N := 20) hx hb ht0 niX4 hown hK hP 0 rfl rfl 3 (by decide) (ht0 _ wd247) (fun _ h9 => h9) rfl dX4_addNarrow_11 ?_
      refine lv_bipush (v := 6) hx hb dX4_addNarrow_14 (by decide) ?_
      refine lv_icmp_lt (tgt := 20) hx hb dX4_addNarrow_16 (by decide) (fun c16 => ?_) (fun c16 => ?_)
      · have hok := k_pos c16 hok
        refine lv_aload_n hx hb dX4_addNarrow_20 rfl (lv_at hl 0 rfl) ?_
        refine va_get (D := D) (ci := 3) (v := .ref (qH 11)) (C := RX4) (T := TX4) (N := 20) hx hb ht0 niX4 hown hK hP 0 rfl rfl 11 (by decide) (ht0 _ wd129) (fun _ h9 => h9) rfl dX4_addNarrow_21 ?_
        refine lv_iload_n hx hb dX4_addNarrow_24 rfl (lv_at hl 1 rfl) ?_
        refine lv_iload_n hx hb dX4_addNarrow_25 rfl (lv_at hl 2 rfl) ?_
        obtain ⟨g26, hok⟩ := gd_some hok
        refine va_iast hx hb hK hP hD hS 1 0 rfl rfl (okI_in g26) dX4_addNarrow_26 (fun H locs hP hD hS => ?_)
        have hP : va_P D vwCl (wX4_addNarrow cy aH qH vH (upd vH_width x1.toNatClampNeg x2)) H := hP
        have hD : va_D A (wX4_addNarrow cy aH qH vH (upd vH_width x1.toNatClampNeg x2)) := hD
        refine lv_aload_n hx hb dX4_addNarrow_27 rfl (lv_at hl 0 rfl) ?_
        refine lv_dup hx hb dX4_addNarrow_28 rfl ?_
        refine va_get (D := D) (ci := 3) (v := .int (vH 3)) (C := RX4) (T := TX4) (N := 20) hx hb ht0 niX4 hown hK hP 0 rfl rfl 3 (by decide) (ht0 _ wd247) (fun _ h9 => h9) rfl dX4_addNarrow_29 ?_
        refine lv_iconst (v := 1) hx hb dX4_addNarrow_32 (by decide) ?_
        refine lv_iadd hx hb dX4_addNarrow_33 ?_
        refine va_put (D := D) (ci := 3) (v := .int ((vH 3) + (1 : Int32))) (ty := .int) (C := RX4) (T := TX4) (N := 20) hx hb ht0 niX4 tyX4 tyX4_ok nmX4 hown hK hP hD hS 0 rfl rfl 3 (by decide) (ht0 _ wd247) (fun _ h9 => h9) rfl (by decide +kernel) rfl rfl (Nat.le_of_ble_eq_true rfl) dX4_addNarrow_34 (fun H locs hP hD hS => ?_)
        have hP : va_P D vwCl (wX4_addNarrow cy aH qH (upd vH 3 ((vH 3) + (1 : Int32))) (upd vH_width x1.toNatClampNeg x2)) H := hP
        have hD : va_D A (wX4_addNarrow cy aH qH (upd vH 3 ((vH 3) + (1 : Int32))) (upd vH_width x1.toNatClampNeg x2)) := hD
        cases hok
        subst hQe; exact W.vret hx hb hr (fun t ht hW => ⟨⟨(), rfl, trivial, by rw [ht]; exact hP, va_K.moved hW.alike hK, hD⟩, hS.F ht⟩) hS.2.2 dX4_addNarrow_37
      · have hok := k_neg c16 hok
        exact J19  H locs ls hP hD hS (lv_sub hl [] rfl) hok
def wsX4_addDoor : List Cond := .code yX4_addDoor cX4_addDoor 3 none :: W0
abbrev wX4_addDoor (cy : Nat → ClassId) (aH : Nat) (qH : Nat → Nat) (vH : Nat → Int32) (vH_doorOne : Nat → Int32) (vH_doorTwo : Nat → Int32) : va_W := [(aH, oX4 vH qH), (qH 12, rI cy 5 vH_doorOne), (qH 13, rI cy 5 vH_doorTwo)]
set_option maxHeartbeats 4000000 in
set_option maxRecDepth 100000 in
theorem kX4_addDoor (l : Launch) (D : va_G) (cy : Nat → ClassId) (sz : Nat) (aH : Nat) (qH : Nat → Nat) (vH : Nat → Int32) (vH_doorOne : Nat → Int32) (vH_doorTwo : Nat → Int32) (x1 : Int32) (x2 : Int32) (z_vH : Nat → Int32) (z_vH_doorOne : Nat → Int32) (z_vH_doorTwo : Nat → Int32) (hok : fX4_addDoor vH vH_doorOne vH_doorTwo x1 x2 = some (z_vH, z_vH_doorOne, z_vH_doorTwo)) (A : Nat → Prop) (hAe : va_A (wX4_addDoor cy aH qH vH vH_doorOne vH_doorTwo) sz = A) : Met l yX4_addDoor wsX4_addDoor ({ frames := 0, cells := 0, slots := 0, locals := 0 } : Room) (kPre D cy [.ref aH, .int x1, .int x2] (wX4_addDoor cy aH qH vH vH_doorOne vH_doorTwo) sz) (kQv D cy A (wX4_addDoor cy aH qH z_vH z_vH_doorOne z_vH_doorTwo)) 0 0 A := by
  refine Met.ofW (cc := cX4_addDoor) (maxL := 3) (ret := none) (by decide) rfl ?_
  intro p e s m args below meth c s₁ B hml hv
  obtain ⟨rfl, hsz, hP, hK, hD0, hN⟩ := hv
  have hx := B.exec
  have hb := B.bytes
  have hr := B.returns
  have ht0 : ∀ w ∈ W0, w.before _ s = true := fun w h => atoms_spec (ws := wsX4_addDoor) B.pre w (List.mem_cons_of_mem _ h)
  have hown : s.vm.findClass RX4 = some m.cls := findClass_of_methodNamed B.named
  have hlocks := B.notSynchronized
  subst hsz
  have hD : va_D A (wX4_addDoor cy aH qH vH vH_doorOne vH_doorTwo) := by rw [← hAe]; exact hD0.self
  have hA : ∀ q : Nat, s.heap.size ≤ q → A q := fun q h => by rw [← hAe]; exact Or.inr h
  have hS : va_S A s.heap s.heap [] := va_S.rf
  have hl := lv_entry ([.ref aH, .int x1, .int x2]) (n := 3) (Nat.le_of_ble_eq_true rfl)
  rw [lg_entry_eq]
  generalize (lg_sl ([.ref aH, .int x1, .int x2]) ++ List.replicate (3 - (lg_sl ([.ref aH, .int x1, .int x2])).length) Slot.unset).toArray = ls at hl ⊢
  have hl : lv_has ls 3 [(0, .ref aH), (1, .int x1), (2, .int x2)] := hl
  generalize hQe : MQ below (kQv D cy A (wX4_addDoor cy aH qH z_vH z_vH_doorOne z_vH_doorTwo)) ([.ref aH, .int x1, .int x2] : List Value).toArray s 0 0 A = Q
  have J15 : ∀ (H : Heap) (locs : List Loc) (ls : Array Slot), va_P D vwCl (wX4_addDoor cy aH qH vH vH_doorOne vH_doorTwo) H → va_D A (wX4_addDoor cy aH qH vH vH_doorOne vH_doorTwo) → va_S A s.heap H locs → lv_has ls 3 [] → fX4_addDoor_J15 vH vH_doorOne vH_doorTwo = some (z_vH, z_vH_doorOne, z_vH_doorTwo) → W p l e ({ frames := 0, cells := 0, slots := 0, locals := 0 } : Room) s m ([.ref aH, .int x1, .int x2] : List Value).toArray below meth c H locs 0 0 Q (F0 m 15 ls []) := by
    intro  H locs ls hP hD hS hl hok
    unfold fX4_addDoor_J15 at hok
    cases hok
    subst hQe; exact W.vret hx hb hr (fun t ht hW => ⟨⟨(), rfl, trivial, by rw [ht]; exact hP, va_K.moved hW.alike hK, hD⟩, hS.F ht⟩) hS.2.2 dX4_addDoor_15
  unfold fX4_addDoor at hok
  obtain ⟨H, hH⟩ : ∃ H, H = s.heap := ⟨_, rfl⟩
  obtain ⟨locs, hlc⟩ : ∃ x : List Loc, x = [] := ⟨_, rfl⟩
  have hP : va_P D vwCl (wX4_addDoor cy aH qH vH vH_doorOne vH_doorTwo) H := by rw [hH]; exact hP
  have hS : va_S A s.heap H locs := by rw [hH, hlc]; exact hS
  rw [show W p l e _ s m _ below meth c s.heap [] = W p l e _ s m _ below meth c H locs from by rw [hH, hlc]]
  refine lv_aload_n hx hb dX4_addDoor_0 rfl (lv_at hl 0 rfl) ?_
  refine va_get (D := D) (ci := 3) (v := .int (vH 4)) (C := RX4) (T := TX4) (N := 20) hx hb ht0 niX4 hown hK hP 0 rfl rfl 4 (by decide) (ht0 _ wd161) (fun _ h9 => h9) rfl dX4_addDoor_1 ?_
  refine lv_if_lt (tgt := 15) hx hb dX4_addDoor_4 (by decide) (fun c4 => ?_) (fun c4 => ?_)
  · have hok := k_pos c4 hok
    exact J15  H locs ls hP hD hS (lv_sub hl [] rfl) hok
  · have hok := k_neg c4 hok
    refine lv_aload_n hx hb dX4_addDoor_7 rfl (lv_at hl 0 rfl) ?_
    refine va_get (D := D) (ci := 3) (v := .int (vH 4)) (C := RX4) (T := TX4) (N := 20) hx hb ht0 niX4 hown hK hP 0 rfl rfl 4 (by decide) (ht0 _ wd161) (fun _ h9 => h9) rfl dX4_addDoor_8 ?_
    refine lv_iconst (v := 5) hx hb dX4_addDoor_11 (by decide) ?_
    refine lv_icmp_lt (tgt := 16) hx hb dX4_addDoor_12 (by decide) (fun c12 => ?_) (fun c12 => ?_)
    · have hok := k_pos c12 hok
      refine lv_aload_n hx hb dX4_addDoor_16 rfl (lv_at hl 0 rfl) ?_
      refine va_get (D := D) (ci := 3) (v := .ref (qH 12)) (C := RX4) (T := TX4) (N := 20) hx hb ht0 niX4 hown hK hP 0 rfl rfl 12 (by decide) (ht0 _ wd159) (fun _ h9 => h9) rfl dX4_addDoor_17 ?_
      refine lv_aload_n hx hb dX4_addDoor_20 rfl (lv_at hl 0 rfl) ?_
      refine va_get (D := D) (ci := 3) (v := .int (vH 4)) (C := RX4) (T := TX4) (N := 20) hx hb ht0 niX4 hown hK hP 0 rfl rfl 4 (by decide) (ht0 _ wd161) (fun _ h9 => h9) rfl dX4_addDoor_21 ?_
      refine lv_iload_n hx hb dX4_addDoor_24 rfl (lv_at hl 1 rfl) ?_
      obtain ⟨g25, hok⟩ := gd_some hok
      refine va_iast hx hb hK hP hD hS 1 0 rfl rfl (okI_in g25) dX4_addDoor_25 (fun H locs hP hD hS => ?_)
      have hP : va_P D vwCl (wX4_addDoor cy aH qH vH (upd vH_doorOne (vH 4).toNatClampNeg x1) vH_doorTwo) H := hP
      have hD : va_D A (wX4_addDoor cy aH qH vH (upd vH_doorOne (vH 4).toNatClampNeg x1) vH_doorTwo) := hD
      refine lv_aload_n hx hb dX4_addDoor_26 rfl (lv_at hl 0 rfl) ?_
      refine va_get (D := D) (ci := 3) (v := .ref (qH 13)) (C := RX4) (T := TX4) (N := 20) hx hb ht0 niX4 hown hK hP 0 rfl rfl 13 (by decide) (ht0 _ wd160) (fun _ h9 => h9) rfl dX4_addDoor_27 ?_
      refine lv_aload_n hx hb dX4_addDoor_30 rfl (lv_at hl 0 rfl) ?_
      refine va_get (D := D) (ci := 3) (v := .int (vH 4)) (C := RX4) (T := TX4) (N := 20) hx hb ht0 niX4 hown hK hP 0 rfl rfl 4 (by decide) (ht0 _ wd161) (fun _ h9 => h9) rfl dX4_addDoor_31 ?_
      refine lv_iload_n hx hb dX4_addDoor_34 rfl (lv_at hl 2 rfl) ?_
      obtain ⟨g35, hok⟩ := gd_some hok
      refine va_iast hx hb hK hP hD hS 2 0 rfl rfl (okI_in g35) dX4_addDoor_35 (fun H locs hP hD hS => ?_)
      have hP : va_P D vwCl (wX4_addDoor cy aH qH vH (upd vH_doorOne (vH 4).toNatClampNeg x1) (upd vH_doorTwo (vH 4).toNatClampNeg x2)) H := hP
      have hD : va_D A (wX4_addDoor cy aH qH vH (upd vH_doorOne (vH 4).toNatClampNeg x1) (upd vH_doorTwo (vH 4).toNatClampNeg x2)) := hD
      refine lv_aload_n hx hb dX4_addDoor_36 rfl (lv_at hl 0 rfl) ?_
      refine lv_dup hx hb dX4_addDoor_37 rfl ?_
      refine va_get (D := D) (ci := 3) (v := .int (vH 4)) (C := RX4) (T := TX4) (N := 20) hx hb ht0 niX4 hown hK hP 0 rfl rfl 4 (by decide) (ht0 _ wd161) (fun _ h9 => h9) rfl dX4_addDoor_38 ?_
      refine lv_iconst (v := 1) hx hb dX4_addDoor_41 (by decide) ?_
      refine lv_iadd hx hb dX4_addDoor_42 ?_
      refine va_put (D := D) (ci := 3) (v := .int ((vH 4) + (1 : Int32))) (ty := .int) (C := RX4) (T := TX4) (N := 20) hx hb ht0 niX4 tyX4 tyX4_ok nmX4 hown hK hP hD hS 0 rfl rfl 4 (by decide) (ht0 _ wd161) (fun _ h9 => h9) rfl (by decide +kernel) rfl rfl (Nat.le_of_ble_eq_true rfl) dX4_addDoor_43 (fun H locs hP hD hS => ?_)
      have hP : va_P D vwCl (wX4_addDoor cy aH qH (upd vH 4 ((vH 4) + (1 : Int32))) (upd vH_doorOne (vH 4).toNatClampNeg x1) (upd vH_doorTwo (vH 4).toNatClampNeg x2)) H := hP
      have hD : va_D A (wX4_addDoor cy aH qH (upd vH 4 ((vH 4) + (1 : Int32))) (upd vH_doorOne (vH 4).toNatClampNeg x1) (upd vH_doorTwo (vH 4).toNatClampNeg x2)) := hD
      cases hok
      subst hQe; exact W.vret hx hb hr (fun t ht hW => ⟨⟨(), rfl, trivial, by rw [ht]; exact hP, va_K.moved hW.alike hK, hD⟩, hS.F ht⟩) hS.2.2 dX4_addDoor_46
    · have hok := k_neg c12 hok
      exact J15  H locs ls hP hD hS (lv_sub hl [] rfl) hok
def wsX4_addThing : List Cond := .code yX4_addThing cX4_addThing 4 none :: W0
abbrev wX4_addThing (cy : Nat → ClassId) (aH : Nat) (qH : Nat → Nat) (vH : Nat → Int32) (vH_kinds : Nat → Int32) (vH_firstCells : Nat → Int32) (vH_sizes : Nat → Int32) : va_W := [(aH, oX4 vH qH), (qH 14, rI cy 7 vH_kinds), (qH 16, rI cy 7 vH_firstCells), (qH 15, rI cy 7 vH_sizes)]
set_option maxHeartbeats 4000000 in
set_option maxRecDepth 100000 in
theorem kX4_addThing (l : Launch) (D : va_G) (cy : Nat → ClassId) (sz : Nat) (aH : Nat) (qH : Nat → Nat) (vH : Nat → Int32) (vH_kinds : Nat → Int32) (vH_firstCells : Nat → Int32) (vH_sizes : Nat → Int32) (x1 : Int32) (x2 : Int32) (x3 : Int32) (z_vH : Nat → Int32) (z_vH_kinds : Nat → Int32) (z_vH_firstCells : Nat → Int32) (z_vH_sizes : Nat → Int32) (hok : fX4_addThing vH vH_kinds vH_firstCells vH_sizes x1 x2 x3 = some (z_vH, z_vH_kinds, z_vH_firstCells, z_vH_sizes)) (A : Nat → Prop) (hAe : va_A (wX4_addThing cy aH qH vH vH_kinds vH_firstCells vH_sizes) sz = A) : Met l yX4_addThing wsX4_addThing ({ frames := 0, cells := 0, slots := 0, locals := 0 } : Room) (kPre D cy [.ref aH, .int x1, .int x2, .int x3] (wX4_addThing cy aH qH vH vH_kinds vH_firstCells vH_sizes) sz) (kQv D cy A (wX4_addThing cy aH qH z_vH z_vH_kinds z_vH_firstCells z_vH_sizes)) 0 0 A := by
  refine Met.ofW (cc := cX4_addThing) (maxL := 4) (ret := none) (by decide) rfl ?_
  intro p e s m args below meth c s₁ B hml hv
  obtain ⟨rfl, hsz, hP, hK, hD0, hN⟩ := hv
  have hx := B.exec
  have hb := B.bytes
  have hr := B.returns
  have ht0 : ∀ w ∈ W0, w.before _ s = true := fun w h => atoms_spec (ws := wsX4_addThing) B.pre w (List.mem_cons_of_mem _ h)
  have hown : s.vm.findClass RX4 = some m.cls := findClass_of_methodNamed B.named
  have hlocks := B.notSynchronized
  subst hsz
  have hD : va_D A (wX4_addThing cy aH qH vH vH_kinds vH_firstCells vH_sizes) := by rw [← hAe]; exact hD0.self
  have hA : ∀ q : Nat, s.heap.size ≤ q → A q := fun q h => by rw [← hAe]; exact Or.inr h
  have hS : va_S A s.heap s.heap [] := va_S.rf
  have hl := lv_entry ([.ref aH, .int x1, .int x2, .int x3]) (n := 4) (Nat.le_of_ble_eq_true rfl)
  rw [lg_entry_eq]
  generalize (lg_sl ([.ref aH, .int x1, .int x2, .int x3]) ++ List.replicate (4 - (lg_sl ([.ref aH, .int x1, .int x2, .int x3])).length) Slot.unset).toArray = ls at hl ⊢
  have hl : lv_has ls 4 [(0, .ref aH), (1, .int x1), (2, .int x2), (3, .int x3)] := hl
  generalize hQe : MQ below (kQv D cy A (wX4_addThing cy aH qH z_vH z_vH_kinds z_vH_firstCells z_vH_sizes)) ([.ref aH, .int x1, .int x2, .int x3] : List Value).toArray s 0 0 A = Q
  have J16 : ∀ (H : Heap) (locs : List Loc) (ls : Array Slot), va_P D vwCl (wX4_addThing cy aH qH vH vH_kinds vH_firstCells vH_sizes) H → va_D A (wX4_addThing cy aH qH vH vH_kinds vH_firstCells vH_sizes) → va_S A s.heap H locs → lv_has ls 4 [] → fX4_addThing_J16 vH vH_kinds vH_firstCells vH_sizes = some (z_vH, z_vH_kinds, z_vH_firstCells, z_vH_sizes) → W p l e ({ frames := 0, cells := 0, slots := 0, locals := 0 } : Room) s m ([.ref aH, .int x1, .int x2, .int x3] : List Value).toArray below meth c H locs 0 0 Q (F0 m 16 ls []) := by
    intro  H locs ls hP hD hS hl hok
    unfold fX4_addThing_J16 at hok
    cases hok
    subst hQe; exact W.vret hx hb hr (fun t ht hW => ⟨⟨(), rfl, trivial, by rw [ht]; exact hP, va_K.moved hW.alike hK, hD⟩, hS.F ht⟩) hS.2.2 dX4_addThing_16
  unfold fX4_addThing at hok
  obtain ⟨H, hH⟩ : ∃ H, H = s.heap := ⟨_, rfl⟩
  obtain ⟨locs, hlc⟩ : ∃ x : List Loc, x = [] := ⟨_, rfl⟩
  have hP : va_P D vwCl (wX4_addThing cy aH qH vH vH_kinds vH_firstCells vH_sizes) H := by rw [hH]; exact hP
  have hS : va_S A s.heap H locs := by rw [hH, hlc]; exact hS
  rw [show W p l e _ s m _ below meth c s.heap [] = W p l e _ s m _ below meth c H locs from by rw [hH, hlc]]
  refine lv_aload_n hx hb dX4_addThing_0 rfl (lv_at hl 0 rfl) ?_
  refine va_get (D := D) (ci := 3) (v := .int (vH 5)) (C := RX4) (T := TX4) (N := 20) hx hb ht0 niX4 hown hK hP 0 rfl rfl 5 (by decide) (ht0 _ wd248) (fun _ h9 => h9) rfl dX4_addThing_1 ?_
  refine lv_if_lt (tgt := 16) hx hb dX4_addThing_4 (by decide) (fun c4 => ?_) (fun c4 => ?_)
  · have hok := k_pos c4 hok
    exact J16  H locs ls hP hD hS (lv_sub hl [] rfl) hok
  · have hok := k_neg c4 hok
    refine lv_aload_n hx hb dX4_addThing_7 rfl (lv_at hl 0 rfl) ?_
    refine va_get (D := D) (ci := 3) (v := .int (vH 5)) (C := RX4) (T := TX4) (N := 20) hx hb ht0 niX4 hown hK hP 0 rfl rfl 5 (by decide) (ht0 _ wd248) (fun _ h9 => h9) rfl dX4_addThing_8 ?_
    refine lv_bipush (v := 7) hx hb dX4_addThing_11 (by decide) ?_
    refine lv_icmp_lt (tgt := 17) hx hb dX4_addThing_13 (by decide) (fun c13 => ?_) (fun c13 => ?_)
    · have hok := k_pos c13 hok
      refine lv_aload_n hx hb dX4_addThing_17 rfl (lv_at hl 0 rfl) ?_
      refine va_get (D := D) (ci := 3) (v := .ref (qH 14)) (C := RX4) (T := TX4) (N := 20) hx hb ht0 niX4 hown hK hP 0 rfl rfl 14 (by decide) (ht0 _ wd70) (fun _ h9 => h9) rfl dX4_addThing_18 ?_
      refine lv_aload_n hx hb dX4_addThing_21 rfl (lv_at hl 0 rfl) ?_
      refine va_get (D := D) (ci := 3) (v := .int (vH 5)) (C := RX4) (T := TX4) (N := 20) hx hb ht0 niX4 hown hK hP 0 rfl rfl 5 (by decide) (ht0 _ wd248) (fun _ h9 => h9) rfl dX4_addThing_22 ?_
      refine lv_iload_n hx hb dX4_addThing_25 rfl (lv_at hl 1 rfl) ?_
      obtain ⟨g26, hok⟩ := gd_some hok
      refine va_iast hx hb hK hP hD hS 1 0 rfl rfl (okI_in g26) dX4_addThing_26 (fun H locs hP hD hS => ?_)
      have hP : va_P D vwCl (wX4_addThing cy aH qH vH (upd vH_kinds (vH 5).toNatClampNeg x1) vH_firstCells vH_sizes) H := hP
      have hD : va_D A (wX4_addThing cy aH qH vH (upd vH_kinds (vH 5).toNatClampNeg x1) vH_firstCells vH_sizes) := hD
      refine lv_aload_n hx hb dX4_addThing_27 rfl (lv_at hl 0 rfl) ?_
      refine va_get (D := D) (ci := 3) (v := .ref (qH 16)) (C := RX4) (T := TX4) (N := 20) hx hb ht0 niX4 hown hK hP 0 rfl rfl 16 (by decide) (ht0 _ wd47) (fun _ h9 => h9) rfl dX4_addThing_28 ?_
      refine lv_aload_n hx hb dX4_addThing_31 rfl (lv_at hl 0 rfl) ?_
      refine va_get (D := D) (ci := 3) (v := .int (vH 5)) (C := RX4) (T := TX4) (N := 20) hx hb ht0 niX4 hown hK hP 0 rfl rfl 5 (by decide) (ht0 _ wd248) (fun _ h9 => h9) rfl dX4_addThing_32 ?_
      refine lv_iload_n hx hb dX4_addThing_35 rfl (lv_at hl 2 rfl) ?_
      obtain ⟨g36, hok⟩ := gd_some hok
      refine va_iast hx hb hK hP hD hS 2 0 rfl rfl (okI_in g36) dX4_addThing_36 (fun H locs hP hD hS => ?_)
      have hP : va_P D vwCl (wX4_addThing cy aH qH vH (upd vH_kinds (vH 5).toNatClampNeg x1) (upd vH_firstCells (vH 5).toNatClampNeg x2) vH_sizes) H := hP
      have hD : va_D A (wX4_addThing cy aH qH vH (upd vH_kinds (vH 5).toNatClampNeg x1) (upd vH_firstCells (vH 5).toNatClampNeg x2) vH_sizes) := hD
      refine lv_aload_n hx hb dX4_addThing_37 rfl (lv_at hl 0 rfl) ?_
      refine va_get (D := D) (ci := 3) (v := .ref (qH 15)) (C := RX4) (T := TX4) (N := 20) hx hb ht0 niX4 hown hK hP 0 rfl rfl 15 (by decide) (ht0 _ wd128) (fun _ h9 => h9) rfl dX4_addThing_38 ?_
      refine lv_aload_n hx hb dX4_addThing_41 rfl (lv_at hl 0 rfl) ?_
      refine va_get (D := D) (ci := 3) (v := .int (vH 5)) (C := RX4) (T := TX4) (N := 20) hx hb ht0 niX4 hown hK hP 0 rfl rfl 5 (by decide) (ht0 _ wd248) (fun _ h9 => h9) rfl dX4_addThing_42 ?_
      refine lv_iload_n hx hb dX4_addThing_45 rfl (lv_at hl 3 rfl) ?_
      obtain ⟨g46, hok⟩ := gd_some hok
      refine va_iast hx hb hK hP hD hS 3 0 rfl rfl (okI_in g46) dX4_addThing_46 (fun H locs hP hD hS => ?_)
      have hP : va_P D vwCl (wX4_addThing cy aH qH vH (upd vH_kinds (vH 5).toNatClampNeg x1) (upd vH_firstCells (vH 5).toNatClampNeg x2) (upd vH_sizes (vH 5).toNatClampNeg x3)) H := hP
      have hD : va_D A (wX4_addThing cy aH qH vH (upd vH_kinds (vH 5).toNatClampNeg x1) (upd vH_firstCells (vH 5).toNatClampNeg x2) (upd vH_sizes (vH 5).toNatClampNeg x3)) := hD
      refine lv_aload_n hx hb dX4_addThing_47 rfl (lv_at hl 0 rfl) ?_
      refine lv_dup hx hb dX4_addThing_48 rfl ?_
      refine va_get (D := D) (ci := 3) (v := .int (vH 5)) (C := RX4) (T := TX4) (N := 20) hx hb ht0 niX4 hown hK hP 0 rfl rfl 5 (by decide) (ht0 _ wd248) (fun _ h9 => h9) rfl dX4_addThing_49 ?_
      refine lv_iconst (v := 1) hx hb dX4_addThing_52 (by decide) ?_
      refine lv_iadd hx hb dX4_addThing_53 ?_
      refine va_put (D := D) (ci := 3) (v := .int ((vH 5) + (1 : Int32))) (ty := .int) (C := RX4) (T := TX4) (N := 20) hx hb ht0 niX4 tyX4 tyX4_ok nmX4 hown hK hP hD hS 0 rfl rfl 5 (by decide) (ht0 _ wd248) (fun _ h9 => h9) rfl (by decide +kernel) rfl rfl (Nat.le_of_ble_eq_true rfl) dX4_addThing_54 (fun H locs hP hD hS => ?_)
      have hP : va_P D vwCl (wX4_addThing cy aH qH (upd vH 5 ((vH 5) + (1 : Int32))) (upd vH_kinds (vH 5).toNatClampNeg x1) (upd vH_firstCells (vH 5).toNatClampNeg x2) (upd vH_sizes (vH 5).toNatClampNeg x3)) H := hP
      have hD : va_D A (wX4_addThing cy aH qH (upd vH 5 ((vH 5) + (1 : Int32))) (upd vH_kinds (vH 5).toNatClampNeg x1) (upd vH_firstCells (vH 5).toNatClampNeg x2) (upd vH_sizes (vH 5).toNatClampNeg x3)) := hD
      cases hok
      subst hQe; exact W.vret hx hb hr (fun t ht hW => ⟨⟨(), rfl, trivial, by rw [ht]; exact hP, va_K.moved hW.alike hK, hD⟩, hS.F ht⟩) hS.2.2 dX4_addThing_57
    · have hok := k_neg c13 hok
      exact J16  H locs ls hP hD hS (lv_sub hl [] rfl) hok
def wsX4_addMark : List Cond := .code yX4_addMark cX4_addMark 4 none :: W0
abbrev wX4_addMark (cy : Nat → ClassId) (aH : Nat) (qH : Nat → Nat) (vH : Nat → Int32) (vH_markNights : Nat → Int32) (vH_markPlaces : Nat → Int32) (vH_markFound : Nat → Int32) : va_W := [(aH, oX4 vH qH), (qH 17, rI cy 6 vH_markNights), (qH 18, rI cy 6 vH_markPlaces), (qH 19, rZ cy 6 vH_markFound)]
set_option maxHeartbeats 4000000 in
set_option maxRecDepth 100000 in
theorem kX4_addMark (l : Launch) (D : va_G) (cy : Nat → ClassId) (sz : Nat) (aH : Nat) (qH : Nat → Nat) (vH : Nat → Int32) (vH_markNights : Nat → Int32) (vH_markPlaces : Nat → Int32) (vH_markFound : Nat → Int32) (x1 : Int32) (x2 : Int32) (x3 : Int32) (z_vH : Nat → Int32) (z_vH_markNights : Nat → Int32) (z_vH_markPlaces : Nat → Int32) (z_vH_markFound : Nat → Int32) (hok : fX4_addMark vH vH_markNights vH_markPlaces vH_markFound x1 x2 x3 = some (z_vH, z_vH_markNights, z_vH_markPlaces, z_vH_markFound)) (A : Nat → Prop) (hAe : va_A (wX4_addMark cy aH qH vH vH_markNights vH_markPlaces vH_markFound) sz = A) : Met l yX4_addMark wsX4_addMark ({ frames := 0, cells := 0, slots := 0, locals := 0 } : Room) (kPre D cy [.ref aH, .int x1, .int x2, .int x3] (wX4_addMark cy aH qH vH vH_markNights vH_markPlaces vH_markFound) sz) (kQv D cy A (wX4_addMark cy aH qH z_vH z_vH_markNights z_vH_markPlaces z_vH_markFound)) 0 0 A := by
  refine Met.ofW (cc := cX4_addMark) (maxL := 4) (ret := none) (by decide) rfl ?_
  intro p e s m args below meth c s₁ B hml hv
  obtain ⟨rfl, hsz, hP, hK, hD0, hN⟩ := hv
  have hx := B.exec
  have hb := B.bytes
  have hr := B.returns
  have ht0 : ∀ w ∈ W0, w.before _ s = true := fun w h => atoms_spec (ws := wsX4_addMark) B.pre w (List.mem_cons_of_mem _ h)
  have hown : s.vm.findClass RX4 = some m.cls := findClass_of_methodNamed B.named
  have hlocks := B.notSynchronized
  subst hsz
  have hD : va_D A (wX4_addMark cy aH qH vH vH_markNights vH_markPlaces vH_markFound) := by rw [← hAe]; exact hD0.self
  have hA : ∀ q : Nat, s.heap.size ≤ q → A q := fun q h => by rw [← hAe]; exact Or.inr h
  have hS : va_S A s.heap s.heap [] := va_S.rf
  have hl := lv_entry ([.ref aH, .int x1, .int x2, .int x3]) (n := 4) (Nat.le_of_ble_eq_true rfl)
  rw [lg_entry_eq]
  generalize (lg_sl ([.ref aH, .int x1, .int x2, .int x3]) ++ List.replicate (4 - (lg_sl ([.ref aH, .int x1, .int x2, .int x3])).length) Slot.unset).toArray = ls at hl ⊢
  have hl : lv_has ls 4 [(0, .ref aH), (1, .int x1), (2, .int x2), (3, .int x3)] := hl
  generalize hQe : MQ below (kQv D cy A (wX4_addMark cy aH qH z_vH z_vH_markNights z_vH_markPlaces z_vH_markFound)) ([.ref aH, .int x1, .int x2, .int x3] : List Value).toArray s 0 0 A = Q
  have J16 : ∀ (H : Heap) (locs : List Loc) (ls : Array Slot), va_P D vwCl (wX4_addMark cy aH qH vH vH_markNights vH_markPlaces vH_markFound) H → va_D A (wX4_addMark cy aH qH vH vH_markNights vH_markPlaces vH_markFound) → va_S A s.heap H locs → lv_has ls 4 [] → fX4_addMark_J16 vH vH_markNights vH_markPlaces vH_markFound = some (z_vH, z_vH_markNights, z_vH_markPlaces, z_vH_markFound) → W p l e ({ frames := 0, cells := 0, slots := 0, locals := 0 } : Room) s m ([.ref aH, .int x1, .int x2, .int x3] : List Value).toArray below meth c H locs 0 0 Q (F0 m 16 ls []) := by
    intro  H locs ls hP hD hS hl hok
    unfold fX4_addMark_J16 at hok
    cases hok
    subst hQe; exact W.vret hx hb hr (fun t ht hW => ⟨⟨(), rfl, trivial, by rw [ht]; exact hP, va_K.moved hW.alike hK, hD⟩, hS.F ht⟩) hS.2.2 dX4_addMark_16
  unfold fX4_addMark at hok
  obtain ⟨H, hH⟩ : ∃ H, H = s.heap := ⟨_, rfl⟩
  obtain ⟨locs, hlc⟩ : ∃ x : List Loc, x = [] := ⟨_, rfl⟩
  have hP : va_P D vwCl (wX4_addMark cy aH qH vH vH_markNights vH_markPlaces vH_markFound) H := by rw [hH]; exact hP
  have hS : va_S A s.heap H locs := by rw [hH, hlc]; exact hS
  rw [show W p l e _ s m _ below meth c s.heap [] = W p l e _ s m _ below meth c H locs from by rw [hH, hlc]]
  refine lv_aload_n hx hb dX4_addMark_0 rfl (lv_at hl 0 rfl) ?_
  refine va_get (D := D) (ci := 3) (v := .int (vH 6)) (C := RX4) (T := TX4) (N := 20) hx hb ht0 niX4 hown hK hP 0 rfl rfl 6 (by decide) (ht0 _ wd1) (fun _ h9 => h9) rfl dX4_addMark_1 ?_
  refine lv_if_lt (tgt := 16) hx hb dX4_addMark_4 (by decide) (fun c4 => ?_) (fun c4 => ?_)
  · have hok := k_pos c4 hok
    exact J16  H locs ls hP hD hS (lv_sub hl [] rfl) hok
  · have hok := k_neg c4 hok
    refine lv_aload_n hx hb dX4_addMark_7 rfl (lv_at hl 0 rfl) ?_
    refine va_get (D := D) (ci := 3) (v := .int (vH 6)) (C := RX4) (T := TX4) (N := 20) hx hb ht0 niX4 hown hK hP 0 rfl rfl 6 (by decide) (ht0 _ wd1) (fun _ h9 => h9) rfl dX4_addMark_8 ?_
    refine lv_bipush (v := 6) hx hb dX4_addMark_11 (by decide) ?_
    refine lv_icmp_lt (tgt := 17) hx hb dX4_addMark_13 (by decide) (fun c13 => ?_) (fun c13 => ?_)
    · have hok := k_pos c13 hok
      refine lv_aload_n hx hb dX4_addMark_17 rfl (lv_at hl 0 rfl) ?_
      refine va_get (D := D) (ci := 3) (v := .ref (qH 17)) (C := RX4) (T := TX4) (N := 20) hx hb ht0 niX4 hown hK hP 0 rfl rfl 17 (by decide) (ht0 _ wd2) (fun _ h9 => h9) rfl dX4_addMark_18 ?_
      refine lv_aload_n hx hb dX4_addMark_21 rfl (lv_at hl 0 rfl) ?_
      refine va_get (D := D) (ci := 3) (v := .int (vH 6)) (C := RX4) (T := TX4) (N := 20) hx hb ht0 niX4 hown hK hP 0 rfl rfl 6 (by decide) (ht0 _ wd1) (fun _ h9 => h9) rfl dX4_addMark_22 ?_
      refine lv_iload_n hx hb dX4_addMark_25 rfl (lv_at hl 1 rfl) ?_
      obtain ⟨g26, hok⟩ := gd_some hok
      refine va_iast hx hb hK hP hD hS 1 0 rfl rfl (okI_in g26) dX4_addMark_26 (fun H locs hP hD hS => ?_)
      have hP : va_P D vwCl (wX4_addMark cy aH qH vH (upd vH_markNights (vH 6).toNatClampNeg x1) vH_markPlaces vH_markFound) H := hP
      have hD : va_D A (wX4_addMark cy aH qH vH (upd vH_markNights (vH 6).toNatClampNeg x1) vH_markPlaces vH_markFound) := hD
      refine lv_aload_n hx hb dX4_addMark_27 rfl (lv_at hl 0 rfl) ?_
      refine va_get (D := D) (ci := 3) (v := .ref (qH 18)) (C := RX4) (T := TX4) (N := 20) hx hb ht0 niX4 hown hK hP 0 rfl rfl 18 (by decide) (ht0 _ wd3) (fun _ h9 => h9) rfl dX4_addMark_28 ?_
      refine lv_aload_n hx hb dX4_addMark_31 rfl (lv_at hl 0 rfl) ?_
      refine va_get (D := D) (ci := 3) (v := .int (vH 6)) (C := RX4) (T := TX4) (N := 20) hx hb ht0 niX4 hown hK hP 0 rfl rfl 6 (by decide) (ht0 _ wd1) (fun _ h9 => h9) rfl dX4_addMark_32 ?_
      refine lv_iload_n hx hb dX4_addMark_35 rfl (lv_at hl 2 rfl) ?_
      obtain ⟨g36, hok⟩ := gd_some hok
      refine va_iast hx hb hK hP hD hS 2 0 rfl rfl (okI_in g36) dX4_addMark_36 (fun H locs hP hD hS => ?_)
      have hP : va_P D vwCl (wX4_addMark cy aH qH vH (upd vH_markNights (vH 6).toNatClampNeg x1) (upd vH_markPlaces (vH 6).toNatClampNeg x2) vH_markFound) H := hP
      have hD : va_D A (wX4_addMark cy aH qH vH (upd vH_markNights (vH 6).toNatClampNeg x1) (upd vH_markPlaces (vH 6).toNatClampNeg x2) vH_markFound) := hD
      refine lv_aload_n hx hb dX4_addMark_37 rfl (lv_at hl 0 rfl) ?_
      refine va_get (D := D) (ci := 3) (v := .ref (qH 19)) (C := RX4) (T := TX4) (N := 20) hx hb ht0 niX4 hown hK hP 0 rfl rfl 19 (by decide) (ht0 _ wd0) (fun _ h9 => h9) rfl dX4_addMark_38 ?_
      refine lv_aload_n hx hb dX4_addMark_41 rfl (lv_at hl 0 rfl) ?_
      refine va_get (D := D) (ci := 3) (v := .int (vH 6)) (C := RX4) (T := TX4) (N := 20) hx hb ht0 niX4 hown hK hP 0 rfl rfl 6 (by decide) (ht0 _ wd1) (fun _ h9 => h9) rfl dX4_addMark_42 ?_
      refine lv_iload_n hx hb dX4_addMark_45 rfl (lv_at hl 3 rfl) ?_
      obtain ⟨g46, hok⟩ := gd_some hok
      refine va_zast hx hb hK hP hD hS 3 3 rfl rfl (okI_in g46) dX4_addMark_46 (fun H locs hP hD hS => ?_)
      have hP : va_P D vwCl (wX4_addMark cy aH qH vH (upd vH_markNights (vH 6).toNatClampNeg x1) (upd vH_markPlaces (vH 6).toNatClampNeg x2) (upd vH_markFound (vH 6).toNatClampNeg (vp_nar .boolean x3))) H := hP
      have hD : va_D A (wX4_addMark cy aH qH vH (upd vH_markNights (vH 6).toNatClampNeg x1) (upd vH_markPlaces (vH 6).toNatClampNeg x2) (upd vH_markFound (vH 6).toNatClampNeg (vp_nar .boolean x3))) := hD
      refine lv_aload_n hx hb dX4_addMark_47 rfl (lv_at hl 0 rfl) ?_
      refine lv_dup hx hb dX4_addMark_48 rfl ?_
      refine va_get (D := D) (ci := 3) (v := .int (vH 6)) (C := RX4) (T := TX4) (N := 20) hx hb ht0 niX4 hown hK hP 0 rfl rfl 6 (by decide) (ht0 _ wd1) (fun _ h9 => h9) rfl dX4_addMark_49 ?_
      refine lv_iconst (v := 1) hx hb dX4_addMark_52 (by decide) ?_
      refine lv_iadd hx hb dX4_addMark_53 ?_
      refine va_put (D := D) (ci := 3) (v := .int ((vH 6) + (1 : Int32))) (ty := .int) (C := RX4) (T := TX4) (N := 20) hx hb ht0 niX4 tyX4 tyX4_ok nmX4 hown hK hP hD hS 0 rfl rfl 6 (by decide) (ht0 _ wd1) (fun _ h9 => h9) rfl (by decide +kernel) rfl rfl (Nat.le_of_ble_eq_true rfl) dX4_addMark_54 (fun H locs hP hD hS => ?_)
      have hP : va_P D vwCl (wX4_addMark cy aH qH (upd vH 6 ((vH 6) + (1 : Int32))) (upd vH_markNights (vH 6).toNatClampNeg x1) (upd vH_markPlaces (vH 6).toNatClampNeg x2) (upd vH_markFound (vH 6).toNatClampNeg (vp_nar .boolean x3))) H := hP
      have hD : va_D A (wX4_addMark cy aH qH (upd vH 6 ((vH 6) + (1 : Int32))) (upd vH_markNights (vH 6).toNatClampNeg x1) (upd vH_markPlaces (vH 6).toNatClampNeg x2) (upd vH_markFound (vH 6).toNatClampNeg (vp_nar .boolean x3))) := hD
      cases hok
      subst hQe; exact W.vret hx hb hr (fun t ht hW => ⟨⟨(), rfl, trivial, by rw [ht]; exact hP, va_K.moved hW.alike hK, hD⟩, hS.F ht⟩) hS.2.2 dX4_addMark_57
    · have hok := k_neg c13 hok
      exact J16  H locs ls hP hD hS (lv_sub hl [] rfl) hok
def wsX5_hasRoom : List Cond := .code yX5_hasRoom cX5_hasRoom 2 (some .boolean) :: W0
abbrev wX5_hasRoom (cy : Nat → ClassId) (aR : Nat) (qR : Nat → Nat) (aH : Nat) (vR_j11 : Int64) (vR : Nat → Int32) : va_W := [(aR, oX5 vR qR vR_j11 aH)]
set_option maxHeartbeats 4000000 in
set_option maxRecDepth 100000 in
theorem kX5_hasRoom (l : Launch) (D : va_G) (cy : Nat → ClassId) (sz : Nat) (aR : Nat) (qR : Nat → Nat) (aH : Nat) (vR_j11 : Int64) (vR : Nat → Int32) (x1 : Int32) (zr : Int32) (hok : fX5_hasRoom vR_j11 vR x1 = some zr) (A : Nat → Prop) (hAe : va_A (wX5_hasRoom cy aR qR aH vR_j11 vR) sz = A) : Met l yX5_hasRoom wsX5_hasRoom ({ frames := 0, cells := 0, slots := 0, locals := 0 } : Room) (kPre D cy [.ref aR, .int x1] (wX5_hasRoom cy aR qR aH vR_j11 vR) sz) (kQi D cy zr A (wX5_hasRoom cy aR qR aH vR_j11 vR)) 0 0 A := by
  refine Met.ofW (cc := cX5_hasRoom) (maxL := 2) (ret := (some .boolean)) (by decide) rfl ?_
  intro p e s m args below meth c s₁ B hml hv
  obtain ⟨rfl, hsz, hP, hK, hD0, hN⟩ := hv
  have hx := B.exec
  have hb := B.bytes
  have hr := B.returns
  have ht0 : ∀ w ∈ W0, w.before _ s = true := fun w h => atoms_spec (ws := wsX5_hasRoom) B.pre w (List.mem_cons_of_mem _ h)
  have hown : s.vm.findClass RX5 = some m.cls := findClass_of_methodNamed B.named
  have hlocks := B.notSynchronized
  subst hsz
  have hD : va_D A (wX5_hasRoom cy aR qR aH vR_j11 vR) := by rw [← hAe]; exact hD0.self
  have hA : ∀ q : Nat, s.heap.size ≤ q → A q := fun q h => by rw [← hAe]; exact Or.inr h
  have hS : va_S A s.heap s.heap [] := va_S.rf
  have hl := lv_entry ([.ref aR, .int x1]) (n := 2) (Nat.le_of_ble_eq_true rfl)
  rw [lg_entry_eq]
  generalize (lg_sl ([.ref aR, .int x1]) ++ List.replicate (2 - (lg_sl ([.ref aR, .int x1])).length) Slot.unset).toArray = ls at hl ⊢
  have hl : lv_has ls 2 [(0, .ref aR), (1, .int x1)] := hl
  generalize hQe : MQ below (kQi D cy zr A (wX5_hasRoom cy aR qR aH vR_j11 vR)) ([.ref aR, .int x1] : List Value).toArray s 0 0 A = Q
  have J17 : ∀ (t0_17 : Int32), ∀ (H : Heap) (locs : List Loc) (ls : Array Slot), va_P D vwCl (wX5_hasRoom cy aR qR aH vR_j11 vR) H → va_D A (wX5_hasRoom cy aR qR aH vR_j11 vR) → va_S A s.heap H locs → lv_has ls 2 [] → fX5_hasRoom_J17 t0_17 = some zr → W p l e ({ frames := 0, cells := 0, slots := 0, locals := 0 } : Room) s m ([.ref aR, .int x1] : List Value).toArray below meth c H locs 0 0 Q (F0 m 17 ls [.int t0_17]) := by
    intro t0_17 H locs ls hP hD hS hl hok
    unfold fX5_hasRoom_J17 at hok
    obtain ⟨g17, hok⟩ := gd_some hok
    cases hok
    subst hQe; exact W.zret hx hb hr (isB_nar g17) (fun t ht hW => ⟨⟨_, (), rfl, rfl, by rw [ht]; exact hP, va_K.moved hW.alike hK, hD⟩, hS.F ht⟩) hS.2.2 dX5_hasRoom_17
  unfold fX5_hasRoom at hok
  obtain ⟨H, hH⟩ : ∃ H, H = s.heap := ⟨_, rfl⟩
  obtain ⟨locs, hlc⟩ : ∃ x : List Loc, x = [] := ⟨_, rfl⟩
  have hP : va_P D vwCl (wX5_hasRoom cy aR qR aH vR_j11 vR) H := by rw [hH]; exact hP
  have hS : va_S A s.heap H locs := by rw [hH, hlc]; exact hS
  rw [show W p l e _ s m _ below meth c s.heap [] = W p l e _ s m _ below meth c H locs from by rw [hH, hlc]]
  refine lv_aload_n hx hb dX5_hasRoom_0 rfl (lv_at hl 0 rfl) ?_
  refine va_get (D := D) (ci := 4) (v := .int (vR 1)) (C := RX5) (T := TX5) (N := 13) hx hb ht0 niX5 hown hK hP 0 rfl rfl 1 (by decide) (ht0 _ wd262) (fun _ h9 => h9) rfl dX5_hasRoom_1 ?_
  refine lv_iload_n hx hb dX5_hasRoom_4 rfl (lv_at hl 1 rfl) ?_
  refine lv_iadd hx hb dX5_hasRoom_5 ?_
  refine lv_sipush (v := 900) hx hb dX5_hasRoom_6 (by decide) ?_
  refine lv_icmp_gt (tgt := 16) hx hb dX5_hasRoom_9 (by decide) (fun c9 => ?_) (fun c9 => ?_)
  · have hok := k_pos c9 hok
    refine lv_iconst (v := 0) hx hb dX5_hasRoom_16 (by decide) ?_
    exact J17 (0 : Int32) H locs ls hP hD hS (lv_sub hl [] rfl) hok
  · have hok := k_neg c9 hok
    refine lv_iconst (v := 1) hx hb dX5_hasRoom_12 (by decide) ?_
    refine lv_goto (tgt := 17) hx hb dX5_hasRoom_13 (by decide) ?_
    exact J17 (1 : Int32) H locs ls hP hD hS (lv_sub hl [] rfl) hok
def wsX5_count : List Cond := .code yX5_count cX5_count 1 (some .int) :: W0
abbrev wX5_count (cy : Nat → ClassId) (aR : Nat) (qR : Nat → Nat) (aH : Nat) (vR_j11 : Int64) (vR : Nat → Int32) : va_W := [(aR, oX5 vR qR vR_j11 aH)]
set_option maxHeartbeats 4000000 in
set_option maxRecDepth 100000 in
theorem kX5_count (l : Launch) (D : va_G) (cy : Nat → ClassId) (sz : Nat) (aR : Nat) (qR : Nat → Nat) (aH : Nat) (vR_j11 : Int64) (vR : Nat → Int32) (zr : Int32) (hok : fX5_count vR_j11 vR = some zr) (A : Nat → Prop) (hAe : va_A (wX5_count cy aR qR aH vR_j11 vR) sz = A) : Met l yX5_count wsX5_count ({ frames := 0, cells := 0, slots := 0, locals := 0 } : Room) (kPre D cy [.ref aR] (wX5_count cy aR qR aH vR_j11 vR) sz) (kQi D cy zr A (wX5_count cy aR qR aH vR_j11 vR)) 0 0 A := by
  refine Met.ofW (cc := cX5_count) (maxL := 1) (ret := (some .int)) (by decide) rfl ?_
  intro p e s m args below meth c s₁ B hml hv
  obtain ⟨rfl, hsz, hP, hK, hD0, hN⟩ := hv
  have hx := B.exec
  have hb := B.bytes
  have hr := B.returns
  have ht0 : ∀ w ∈ W0, w.before _ s = true := fun w h => atoms_spec (ws := wsX5_count) B.pre w (List.mem_cons_of_mem _ h)
  have hown : s.vm.findClass RX5 = some m.cls := findClass_of_methodNamed B.named
  have hlocks := B.notSynchronized
  subst hsz
  have hD : va_D A (wX5_count cy aR qR aH vR_j11 vR) := by rw [← hAe]; exact hD0.self
  have hA : ∀ q : Nat, s.heap.size ≤ q → A q := fun q h => by rw [← hAe]; exact Or.inr h
  have hS : va_S A s.heap s.heap [] := va_S.rf
  have hl := lv_entry ([.ref aR]) (n := 1) (Nat.le_of_ble_eq_true rfl)
  rw [lg_entry_eq]
  generalize (lg_sl ([.ref aR]) ++ List.replicate (1 - (lg_sl ([.ref aR])).length) Slot.unset).toArray = ls at hl ⊢
  have hl : lv_has ls 1 [(0, .ref aR)] := hl
  unfold fX5_count at hok
  obtain ⟨H, hH⟩ : ∃ H, H = s.heap := ⟨_, rfl⟩
  obtain ⟨locs, hlc⟩ : ∃ x : List Loc, x = [] := ⟨_, rfl⟩
  have hP : va_P D vwCl (wX5_count cy aR qR aH vR_j11 vR) H := by rw [hH]; exact hP
  have hS : va_S A s.heap H locs := by rw [hH, hlc]; exact hS
  rw [show W p l e _ s m _ below meth c s.heap [] = W p l e _ s m _ below meth c H locs from by rw [hH, hlc]]
  refine lv_aload_n hx hb dX5_count_0 rfl (lv_at hl 0 rfl) ?_
  refine va_get (D := D) (ci := 4) (v := .int (vR 1)) (C := RX5) (T := TX5) (N := 13) hx hb ht0 niX5 hown hK hP 0 rfl rfl 1 (by decide) (ht0 _ wd262) (fun _ h9 => h9) rfl dX5_count_1 ?_
  cases hok
  exact W.iret hx hb hr (fun t ht hW => ⟨⟨_, (), rfl, rfl, by rw [ht]; exact hP, va_K.moved hW.alike hK, hD⟩, hS.F ht⟩) hS.2.2 dX5_count_4
def wsX5_append : List Cond := .code yX5_append cX5_append 3 none :: W0
abbrev wX5_append (cy : Nat → ClassId) (aR : Nat) (qR : Nat → Nat) (aH : Nat) (vR_j11 : Int64) (vR : Nat → Int32) (vR_tape : Nat → Int32) : va_W := [(aR, oX5 vR qR vR_j11 aH), (qR 0, rB cy 900 vR_tape)]
set_option maxHeartbeats 4000000 in
set_option maxRecDepth 100000 in
theorem kX5_append (l : Launch) (D : va_G) (cy : Nat → ClassId) (sz : Nat) (aR : Nat) (qR : Nat → Nat) (aH : Nat) (vR_j11 : Int64) (vR : Nat → Int32) (vR_tape : Nat → Int32) (x1 : Int32) (z_vR : Nat → Int32) (z_vR_tape : Nat → Int32) (hok : fX5_append vR_j11 vR vR_tape x1 = some (z_vR, z_vR_tape)) (A : Nat → Prop) (hAe : va_A (wX5_append cy aR qR aH vR_j11 vR vR_tape) sz = A) : Met l yX5_append wsX5_append ({ frames := 0, cells := 0, slots := 0, locals := 0 } : Room) (kPre D cy [.ref aR, .int x1] (wX5_append cy aR qR aH vR_j11 vR vR_tape) sz) (kQv D cy A (wX5_append cy aR qR aH vR_j11 z_vR z_vR_tape)) 0 0 A := by
  refine Met.ofW (cc := cX5_append) (maxL := 3) (ret := none) (by decide) rfl ?_
  intro p e s m args below meth c s₁ B hml hv
  obtain ⟨rfl, hsz, hP, hK, hD0, hN⟩ := hv
  have hx := B.exec
  have hb := B.bytes
  have hr := B.returns
  have ht0 : ∀ w ∈ W0, w.before _ s = true := fun w h => atoms_spec (ws := wsX5_append) B.pre w (List.mem_cons_of_mem _ h)
  have hown : s.vm.findClass RX5 = some m.cls := findClass_of_methodNamed B.named
  have hlocks := B.notSynchronized
  subst hsz
  have hD : va_D A (wX5_append cy aR qR aH vR_j11 vR vR_tape) := by rw [← hAe]; exact hD0.self
  have hA : ∀ q : Nat, s.heap.size ≤ q → A q := fun q h => by rw [← hAe]; exact Or.inr h
  have hS : va_S A s.heap s.heap [] := va_S.rf
  have hl := lv_entry ([.ref aR, .int x1]) (n := 3) (Nat.le_of_ble_eq_true rfl)
  rw [lg_entry_eq]
  generalize (lg_sl ([.ref aR, .int x1]) ++ List.replicate (3 - (lg_sl ([.ref aR, .int x1])).length) Slot.unset).toArray = ls at hl ⊢
  have hl : lv_has ls 3 [(0, .ref aR), (1, .int x1)] := hl
  generalize hQe : MQ below (kQv D cy A (wX5_append cy aR qR aH vR_j11 z_vR z_vR_tape)) ([.ref aR, .int x1] : List Value).toArray s 0 0 A = Q
  have L3 : ∀ (fuel : Nat) (y2_3 : Int32) (vR_tape_3 : Nat → Int32) (vR_3 : Nat → Int32), ∀ (H : Heap) (locs : List Loc) (ls : Array Slot), va_P D vwCl (wX5_append cy aR qR aH vR_j11 vR_3 vR_tape_3) H → va_D A (wX5_append cy aR qR aH vR_j11 vR_3 vR_tape_3) → va_S A s.heap H locs → lv_has ls 3 [(0, .ref aR), (1, .int x1), (2, .int y2_3)] → lp (fX5_append_B3 x1) fuel (y2_3, vR_tape_3, vR_3) = some (z_vR, z_vR_tape) → W p l e ({ frames := 0, cells := 0, slots := 0, locals := 0 } : Room) s m ([.ref aR, .int x1] : List Value).toArray below meth c H locs 0 0 Q (F0 m 3 ls []) := by
    intro fuel
    induction fuel with
    | zero => intro y2_3 vR_tape_3 vR_3 H locs ls hP hD hS hl hok; exact (lp_0 hok).elim
    | succ fuel ih3 =>
      intro y2_3 vR_tape_3 vR_3 H locs ls hP hD hS hl hok
      obtain ⟨y3, hok, hL3, hR3⟩ := lp_step hok
      have J47 : ∀ (vR_tape_47 : Nat → Int32) (vR_47 : Nat → Int32), ∀ (H : Heap) (locs : List Loc) (ls : Array Slot), va_P D vwCl (wX5_append cy aR qR aH vR_j11 vR_47 vR_tape_47) H → va_D A (wX5_append cy aR qR aH vR_j11 vR_47 vR_tape_47) → va_S A s.heap H locs → lv_has ls 3 [(0, .ref aR), (1, .int x1), (2, .int y2_3)] → fX5_append_J47 y2_3 vR_tape_47 vR_47 = some y3 → W p l e ({ frames := 0, cells := 0, slots := 0, locals := 0 } : Room) s m ([.ref aR, .int x1] : List Value).toArray below meth c H locs 0 0 Q (F0 m 47 ls []) := by
        intro vR_tape_47 vR_47 H locs ls hP hD hS hl hok
        unfold fX5_append_J47 at hok
        refine lv_iinc (v := (y2_3 + (-8))) (lv' := [(2, .int (y2_3 + (-8))), (0, .ref aR), (1, .int x1)]) hx hb dX5_append_47 hl (k := 2) rfl (by first | rfl | decide) (by decide) rfl (fun ls hl => ?_)
        refine lv_goto (tgt := 3) hx hb dX5_append_50 (by decide) ?_
        exact ih3 (y2_3 + (-8)) vR_tape_47 vR_47 H locs ls hP hD hS (lv_sub hl [1, 2, 0] rfl) (hR3 _ (Option.some.inj hok).symm)
      unfold fX5_append_B3 at hok
      try dsimp only at hok
      refine lv_iload_n hx hb dX5_append_3 rfl (lv_at hl 2 rfl) ?_
      refine lv_if_lt (tgt := 53) hx hb dX5_append_4 (by decide) (fun c4 => ?_) (fun c4 => ?_)
      · have hok := k_pos c4 hok
        obtain ⟨e3, hok, he3⟩ := ex_some hok
        have hok := hok.trans (congrArg some (hL3 _ he3))
        cases hok
        subst hQe; exact W.vret hx hb hr (fun t ht hW => ⟨⟨(), rfl, trivial, by rw [ht]; exact hP, va_K.moved hW.alike hK, hD⟩, hS.F ht⟩) hS.2.2 dX5_append_53
      · have hok := k_neg c4 hok
        refine lv_aload_n hx hb dX5_append_7 rfl (lv_at hl 0 rfl) ?_
        refine va_get (D := D) (ci := 4) (v := .int (vR_3 1)) (C := RX5) (T := TX5) (N := 13) hx hb ht0 niX5 hown hK hP 0 rfl rfl 1 (by decide) (ht0 _ wd262) (fun _ h9 => h9) rfl dX5_append_8 ?_
        refine lv_if_lt (tgt := 47) hx hb dX5_append_11 (by decide) (fun c11 => ?_) (fun c11 => ?_)
        · have hok := k_pos c11 hok
          exact J47 vR_tape_3 vR_3 H locs ls hP hD hS (lv_sub hl [0, 1, 2] rfl) hok
        · have hok := k_neg c11 hok
          refine lv_aload_n hx hb dX5_append_14 rfl (lv_at hl 0 rfl) ?_
          refine va_get (D := D) (ci := 4) (v := .int (vR_3 1)) (C := RX5) (T := TX5) (N := 13) hx hb ht0 niX5 hown hK hP 0 rfl rfl 1 (by decide) (ht0 _ wd262) (fun _ h9 => h9) rfl dX5_append_15 ?_
          refine lv_sipush (v := 900) hx hb dX5_append_18 (by decide) ?_
          refine lv_icmp_ge (tgt := 47) hx hb dX5_append_21 (by decide) (fun c21 => ?_) (fun c21 => ?_)
          · have hok := k_pos c21 hok
            exact J47 vR_tape_3 vR_3 H locs ls hP hD hS (lv_sub hl [0, 1, 2] rfl) hok
          · have hok := k_neg c21 hok
            refine lv_aload_n hx hb dX5_append_24 rfl (lv_at hl 0 rfl) ?_
            refine va_get (D := D) (ci := 4) (v := .ref (qR 0)) (C := RX5) (T := TX5) (N := 13) hx hb ht0 niX5 hown hK hP 0 rfl rfl 0 (by decide) (ht0 _ wd263) (fun _ h9 => h9) rfl dX5_append_25 ?_
            refine lv_aload_n hx hb dX5_append_28 rfl (lv_at hl 0 rfl) ?_
            refine va_get (D := D) (ci := 4) (v := .int (vR_3 1)) (C := RX5) (T := TX5) (N := 13) hx hb ht0 niX5 hown hK hP 0 rfl rfl 1 (by decide) (ht0 _ wd262) (fun _ h9 => h9) rfl dX5_append_29 ?_
            refine lv_iload_n hx hb dX5_append_32 rfl (lv_at hl 1 rfl) ?_
            refine lv_iload_n hx hb dX5_append_33 rfl (lv_at hl 2 rfl) ?_
            refine lv_ishr hx hb dX5_append_34 ?_
            refine lv_i2b (v := (isr x1 y2_3).toInt8.toInt32) hx hb dX5_append_35 rfl ?_
            obtain ⟨g36, hok⟩ := gd_some hok
            refine va_bast hx hb hK hP hD hS 1 1 rfl rfl (okI_in g36) dX5_append_36 (fun H locs hP hD hS => ?_)
            have hP : va_P D vwCl (wX5_append cy aR qR aH vR_j11 vR_3 (upd vR_tape_3 (vR_3 1).toNatClampNeg (vp_nar .byte ((isr x1 y2_3).toInt8.toInt32)))) H := hP
            have hD : va_D A (wX5_append cy aR qR aH vR_j11 vR_3 (upd vR_tape_3 (vR_3 1).toNatClampNeg (vp_nar .byte ((isr x1 y2_3).toInt8.toInt32)))) := hD
            refine lv_aload_n hx hb dX5_append_37 rfl (lv_at hl 0 rfl) ?_
            refine lv_dup hx hb dX5_append_38 rfl ?_
            refine va_get (D := D) (ci := 4) (v := .int (vR_3 1)) (C := RX5) (T := TX5) (N := 13) hx hb ht0 niX5 hown hK hP 0 rfl rfl 1 (by decide) (ht0 _ wd262) (fun _ h9 => h9) rfl dX5_append_39 ?_
            refine lv_iconst (v := 1) hx hb dX5_append_42 (by decide) ?_
            refine lv_iadd hx hb dX5_append_43 ?_
            refine va_put (D := D) (ci := 4) (v := .int ((vR_3 1) + (1 : Int32))) (ty := .int) (C := RX5) (T := TX5) (N := 13) hx hb ht0 niX5 tyX5 tyX5_ok nmX5 hown hK hP hD hS 0 rfl rfl 1 (by decide) (ht0 _ wd262) (fun _ h9 => h9) rfl (by decide +kernel) rfl rfl (Nat.le_of_ble_eq_true rfl) dX5_append_44 (fun H locs hP hD hS => ?_)
            have hP : va_P D vwCl (wX5_append cy aR qR aH vR_j11 (upd vR_3 1 ((vR_3 1) + (1 : Int32))) (upd vR_tape_3 (vR_3 1).toNatClampNeg (vp_nar .byte ((isr x1 y2_3).toInt8.toInt32)))) H := hP
            have hD : va_D A (wX5_append cy aR qR aH vR_j11 (upd vR_3 1 ((vR_3 1) + (1 : Int32))) (upd vR_tape_3 (vR_3 1).toNatClampNeg (vp_nar .byte ((isr x1 y2_3).toInt8.toInt32)))) := hD
            exact J47 (upd vR_tape_3 (vR_3 1).toNatClampNeg (vp_nar .byte ((isr x1 y2_3).toInt8.toInt32))) (upd vR_3 1 ((vR_3 1) + (1 : Int32))) H locs ls hP hD hS (lv_sub hl [0, 1, 2] rfl) hok
  unfold fX5_append at hok
  obtain ⟨H, hH⟩ : ∃ H, H = s.heap := ⟨_, rfl⟩
  obtain ⟨locs, hlc⟩ : ∃ x : List Loc, x = [] := ⟨_, rfl⟩
  have hP : va_P D vwCl (wX5_append cy aR qR aH vR_j11 vR vR_tape) H := by rw [hH]; exact hP
  have hS : va_S A s.heap H locs := by rw [hH, hlc]; exact hS
  rw [show W p l e _ s m _ below meth c s.heap [] = W p l e _ s m _ below meth c H locs from by rw [hH, hlc]]
  refine lv_bipush (v := 24) hx hb dX5_append_0 (by decide) ?_
  refine lv_istore_n (lv' := [(2, .int 24), (0, .ref aR), (1, .int x1)]) hx hb dX5_append_2 rfl hl (by decide) rfl (fun ls hl => ?_)
  exact L3 5000 (24 : Int32) vR_tape vR H locs ls hP hD hS (lv_sub hl [1, 2, 0] rfl) hok
def wsX5_faultFound : List Cond := .code yX5_faultFound cX5_faultFound 1 (some .int) :: W0
abbrev wX5_faultFound (cy : Nat → ClassId) (aR : Nat) (qR : Nat → Nat) (aH : Nat) (vR_j11 : Int64) (vR : Nat → Int32) : va_W := [(aR, oX5 vR qR vR_j11 aH)]
set_option maxHeartbeats 4000000 in
set_option maxRecDepth 100000 in
theorem kX5_faultFound (l : Launch) (D : va_G) (cy : Nat → ClassId) (sz : Nat) (aR : Nat) (qR : Nat → Nat) (aH : Nat) (vR_j11 : Int64) (vR : Nat → Int32) (zr : Int32) (hok : fX5_faultFound vR_j11 vR = some zr) (A : Nat → Prop) (hAe : va_A (wX5_faultFound cy aR qR aH vR_j11 vR) sz = A) : Met l yX5_faultFound wsX5_faultFound ({ frames := 0, cells := 0, slots := 0, locals := 0 } : Room) (kPre D cy [.ref aR] (wX5_faultFound cy aR qR aH vR_j11 vR) sz) (kQi D cy zr A (wX5_faultFound cy aR qR aH vR_j11 vR)) 0 0 A := by
  refine Met.ofW (cc := cX5_faultFound) (maxL := 1) (ret := (some .int)) (by decide) rfl ?_
  intro p e s m args below meth c s₁ B hml hv
  obtain ⟨rfl, hsz, hP, hK, hD0, hN⟩ := hv
  have hx := B.exec
  have hb := B.bytes
  have hr := B.returns
  have ht0 : ∀ w ∈ W0, w.before _ s = true := fun w h => atoms_spec (ws := wsX5_faultFound) B.pre w (List.mem_cons_of_mem _ h)
  have hown : s.vm.findClass RX5 = some m.cls := findClass_of_methodNamed B.named
  have hlocks := B.notSynchronized
  subst hsz
  have hD : va_D A (wX5_faultFound cy aR qR aH vR_j11 vR) := by rw [← hAe]; exact hD0.self
  have hA : ∀ q : Nat, s.heap.size ≤ q → A q := fun q h => by rw [← hAe]; exact Or.inr h
  have hS : va_S A s.heap s.heap [] := va_S.rf
  have hl := lv_entry ([.ref aR]) (n := 1) (Nat.le_of_ble_eq_true rfl)
  rw [lg_entry_eq]
  generalize (lg_sl ([.ref aR]) ++ List.replicate (1 - (lg_sl ([.ref aR])).length) Slot.unset).toArray = ls at hl ⊢
  have hl : lv_has ls 1 [(0, .ref aR)] := hl
  unfold fX5_faultFound at hok
  obtain ⟨H, hH⟩ : ∃ H, H = s.heap := ⟨_, rfl⟩
  obtain ⟨locs, hlc⟩ : ∃ x : List Loc, x = [] := ⟨_, rfl⟩
  have hP : va_P D vwCl (wX5_faultFound cy aR qR aH vR_j11 vR) H := by rw [hH]; exact hP
  have hS : va_S A s.heap H locs := by rw [hH, hlc]; exact hS
  rw [show W p l e _ s m _ below meth c s.heap [] = W p l e _ s m _ below meth c H locs from by rw [hH, hlc]]
  refine lv_aload_n hx hb dX5_faultFound_0 rfl (lv_at hl 0 rfl) ?_
  refine va_get (D := D) (ci := 4) (v := .int (vR 12)) (C := RX5) (T := TX5) (N := 13) hx hb ht0 niX5 hown hK hP 0 rfl rfl 12 (by decide) (ht0 _ wd264) (fun _ h9 => h9) rfl dX5_faultFound_1 ?_
  cases hok
  exact W.iret hx hb hr (fun t ht hW => ⟨⟨_, (), rfl, rfl, by rw [ht]; exact hP, va_K.moved hW.alike hK, hD⟩, hS.F ht⟩) hS.2.2 dX5_faultFound_4
def wsX5_faultStart : List Cond := .code yX5_faultStart cX5_faultStart 1 (some .int) :: W0
abbrev wX5_faultStart (cy : Nat → ClassId) (aR : Nat) (qR : Nat → Nat) (aH : Nat) (vR_j11 : Int64) (vR : Nat → Int32) : va_W := [(aR, oX5 vR qR vR_j11 aH)]
set_option maxHeartbeats 4000000 in
set_option maxRecDepth 100000 in
theorem kX5_faultStart (l : Launch) (D : va_G) (cy : Nat → ClassId) (sz : Nat) (aR : Nat) (qR : Nat → Nat) (aH : Nat) (vR_j11 : Int64) (vR : Nat → Int32) (zr : Int32) (hok : fX5_faultStart vR_j11 vR = some zr) (A : Nat → Prop) (hAe : va_A (wX5_faultStart cy aR qR aH vR_j11 vR) sz = A) : Met l yX5_faultStart wsX5_faultStart ({ frames := 0, cells := 0, slots := 0, locals := 0 } : Room) (kPre D cy [.ref aR] (wX5_faultStart cy aR qR aH vR_j11 vR) sz) (kQi D cy zr A (wX5_faultStart cy aR qR aH vR_j11 vR)) 0 0 A := by
  refine Met.ofW (cc := cX5_faultStart) (maxL := 1) (ret := (some .int)) (by decide) rfl ?_
  intro p e s m args below meth c s₁ B hml hv
  obtain ⟨rfl, hsz, hP, hK, hD0, hN⟩ := hv
  have hx := B.exec
  have hb := B.bytes
  have hr := B.returns
  have ht0 : ∀ w ∈ W0, w.before _ s = true := fun w h => atoms_spec (ws := wsX5_faultStart) B.pre w (List.mem_cons_of_mem _ h)
  have hown : s.vm.findClass RX5 = some m.cls := findClass_of_methodNamed B.named
  have hlocks := B.notSynchronized
  subst hsz
  have hD : va_D A (wX5_faultStart cy aR qR aH vR_j11 vR) := by rw [← hAe]; exact hD0.self
  have hA : ∀ q : Nat, s.heap.size ≤ q → A q := fun q h => by rw [← hAe]; exact Or.inr h
  have hS : va_S A s.heap s.heap [] := va_S.rf
  have hl := lv_entry ([.ref aR]) (n := 1) (Nat.le_of_ble_eq_true rfl)
  rw [lg_entry_eq]
  generalize (lg_sl ([.ref aR]) ++ List.replicate (1 - (lg_sl ([.ref aR])).length) Slot.unset).toArray = ls at hl ⊢
  have hl : lv_has ls 1 [(0, .ref aR)] := hl
  unfold fX5_faultStart at hok
  obtain ⟨H, hH⟩ : ∃ H, H = s.heap := ⟨_, rfl⟩
  obtain ⟨locs, hlc⟩ : ∃ x : List Loc, x = [] := ⟨_, rfl⟩
  have hP : va_P D vwCl (wX5_faultStart cy aR qR aH vR_j11 vR) H := by rw [hH]; exact hP
  have hS : va_S A s.heap H locs := by rw [hH, hlc]; exact hS
  rw [show W p l e _ s m _ below meth c s.heap [] = W p l e _ s m _ below meth c H locs from by rw [hH, hlc]]
  refine lv_aload_n hx hb dX5_faultStart_0 rfl (lv_at hl 0 rfl) ?_
  refine va_get (D := D) (ci := 4) (v := .int (vR 8)) (C := RX5) (T := TX5) (N := 13) hx hb ht0 niX5 hown hK hP 0 rfl rfl 8 (by decide) (ht0 _ wd265) (fun _ h9 => h9) rfl dX5_faultStart_1 ?_
  cases hok
  exact W.iret hx hb hr (fun t ht hW => ⟨⟨_, (), rfl, rfl, by rw [ht]; exact hP, va_K.moved hW.alike hK, hD⟩, hS.F ht⟩) hS.2.2 dX5_faultStart_4
def wsX5_exchange : List Cond := .code yX5_exchange cX5_exchange 3 (some (.object "NightRound$House")) :: W0
abbrev wX5_exchange (cy : Nat → ClassId) (aR : Nat) (aH : Nat) (qR : Nat → Nat) (aH0 : Nat) (vR_j11 : Int64) (vR : Nat → Int32) : va_W := [(aR, oX5 vR qR vR_j11 aH0)]
set_option maxHeartbeats 4000000 in
set_option maxRecDepth 100000 in
theorem kX5_exchange (l : Launch) (D : va_G) (cy : Nat → ClassId) (sz : Nat) (aR : Nat) (aH : Nat) (qR : Nat → Nat) (aH0 : Nat) (vR_j11 : Int64) (vR : Nat → Int32) (hok : fX5_exchange vR_j11 vR = some ()) (A : Nat → Prop) (hAe : va_A (wX5_exchange cy aR aH qR aH0 vR_j11 vR) sz = A) : Met l yX5_exchange wsX5_exchange ({ frames := 0, cells := 0, slots := 0, locals := 0 } : Room) (kPre D cy [.ref aR, .ref aH] (wX5_exchange cy aR aH qR aH0 vR_j11 vR) sz) (kQr D cy aH0 A (wX5_exchange cy aR aH qR aH vR_j11 vR)) 0 0 A := by
  refine Met.ofW (cc := cX5_exchange) (maxL := 3) (ret := (some (.object "NightRound$House"))) (by decide) rfl ?_
  intro p e s m args below meth c s₁ B hml hv
  obtain ⟨rfl, hsz, hP, hK, hD0, hN⟩ := hv
  have hx := B.exec
  have hb := B.bytes
  have hr := B.returns
  have ht0 : ∀ w ∈ W0, w.before _ s = true := fun w h => atoms_spec (ws := wsX5_exchange) B.pre w (List.mem_cons_of_mem _ h)
  have hown : s.vm.findClass RX5 = some m.cls := findClass_of_methodNamed B.named
  have hlocks := B.notSynchronized
  subst hsz
  have hD : va_D A (wX5_exchange cy aR aH qR aH0 vR_j11 vR) := by rw [← hAe]; exact hD0.self
  have hA : ∀ q : Nat, s.heap.size ≤ q → A q := fun q h => by rw [← hAe]; exact Or.inr h
  have hS : va_S A s.heap s.heap [] := va_S.rf
  have hl := lv_entry ([.ref aR, .ref aH]) (n := 3) (Nat.le_of_ble_eq_true rfl)
  rw [lg_entry_eq]
  generalize (lg_sl ([.ref aR, .ref aH]) ++ List.replicate (3 - (lg_sl ([.ref aR, .ref aH])).length) Slot.unset).toArray = ls at hl ⊢
  have hl : lv_has ls 3 [(0, .ref aR), (1, .ref aH)] := hl
  unfold fX5_exchange at hok
  obtain ⟨H, hH⟩ : ∃ H, H = s.heap := ⟨_, rfl⟩
  obtain ⟨locs, hlc⟩ : ∃ x : List Loc, x = [] := ⟨_, rfl⟩
  have hP : va_P D vwCl (wX5_exchange cy aR aH qR aH0 vR_j11 vR) H := by rw [hH]; exact hP
  have hS : va_S A s.heap H locs := by rw [hH, hlc]; exact hS
  rw [show W p l e _ s m _ below meth c s.heap [] = W p l e _ s m _ below meth c H locs from by rw [hH, hlc]]
  refine lv_aload_n hx hb dX5_exchange_0 rfl (lv_at hl 0 rfl) ?_
  refine va_get (D := D) (ci := 4) (v := .ref aH0) (C := RX5) (T := TX5) (N := 13) hx hb ht0 niX5 hown hK hP 0 rfl rfl 2 (by decide) (ht0 _ wd266) (fun _ h9 => h9) rfl dX5_exchange_1 ?_
  refine lv_astore_n (lv' := [(2, .ref aH0), (0, .ref aR), (1, .ref aH)]) hx hb dX5_exchange_4 rfl hl (by decide) rfl (fun ls hl => ?_)
  refine lv_aload_n hx hb dX5_exchange_5 rfl (lv_at hl 1 rfl) ?_
  refine lv_aload_n hx hb dX5_exchange_6 rfl (lv_at hl 2 rfl) ?_
  refine va_put (D := D) (ci := 4) (v := .ref aH) (ty := (.object "NightRound$House")) (C := RX5) (T := TX5) (N := 13) hx hb ht0 niX5 tyX5 tyX5_ok nmX5 hown hK hP hD hS 0 rfl rfl 2 (by decide) (ht0 _ wd266) (fun _ h9 => h9) rfl (by decide +kernel) rfl rfl (Nat.le_of_ble_eq_true rfl) dX5_exchange_7 (fun H locs hP hD hS => ?_)
  have hP : va_P D vwCl (wX5_exchange cy aR aH qR aH vR_j11 vR) H := hP
  have hD : va_D A (wX5_exchange cy aR aH qR aH vR_j11 vR) := hD
  refine lv_aload_n hx hb dX5_exchange_10 rfl (lv_at hl 0 rfl) ?_
  exact W.aret hx hb hr (Or.inl ⟨_, rfl⟩) (Or.inr ⟨_, rfl⟩) (fun t ht hW => ⟨⟨(), _, rfl, trivial, rfl, by rw [ht]; exact hP, va_K.moved hW.alike hK, hD⟩, hS.F ht⟩) hS.2.2 dX5_exchange_11
def wsX5_byteAt : List Cond := .code yX5_byteAt cX5_byteAt 2 (some .int) :: W0
abbrev wX5_byteAt (cy : Nat → ClassId) (aR : Nat) (qR : Nat → Nat) (aH : Nat) (vR_j11 : Int64) (vR : Nat → Int32) (vR_tape : Nat → Int32) : va_W := [(aR, oX5 vR qR vR_j11 aH), (qR 0, rB cy 900 vR_tape)]
set_option maxHeartbeats 4000000 in
set_option maxRecDepth 100000 in
theorem kX5_byteAt (l : Launch) (D : va_G) (cy : Nat → ClassId) (sz : Nat) (aR : Nat) (qR : Nat → Nat) (aH : Nat) (vR_j11 : Int64) (vR : Nat → Int32) (vR_tape : Nat → Int32) (x1 : Int32) (zr : Int32) (hok : fX5_byteAt vR_j11 vR vR_tape x1 = some zr) (A : Nat → Prop) (hAe : va_A (wX5_byteAt cy aR qR aH vR_j11 vR vR_tape) sz = A) : Met l yX5_byteAt wsX5_byteAt ({ frames := 0, cells := 0, slots := 0, locals := 0 } : Room) (kPre D cy [.ref aR, .int x1] (wX5_byteAt cy aR qR aH vR_j11 vR vR_tape) sz) (kQi D cy zr A (wX5_byteAt cy aR qR aH vR_j11 vR vR_tape)) 0 0 A := by
  refine Met.ofW (cc := cX5_byteAt) (maxL := 2) (ret := (some .int)) (by decide) rfl ?_
  intro p e s m args below meth c s₁ B hml hv
  obtain ⟨rfl, hsz, hP, hK, hD0, hN⟩ := hv
  have hx := B.exec
  have hb := B.bytes
  have hr := B.returns
  have ht0 : ∀ w ∈ W0, w.before _ s = true := fun w h => atoms_spec (ws := wsX5_byteAt) B.pre w (List.mem_cons_of_mem _ h)
  have hown : s.vm.findClass RX5 = some m.cls := findClass_of_methodNamed B.named
  have hlocks := B.notSynchronized
  subst hsz
  have hD : va_D A (wX5_byteAt cy aR qR aH vR_j11 vR vR_tape) := by rw [← hAe]; exact hD0.self
  have hA : ∀ q : Nat, s.heap.size ≤ q → A q := fun q h => by rw [← hAe]; exact Or.inr h
  have hS : va_S A s.heap s.heap [] := va_S.rf
  have hl := lv_entry ([.ref aR, .int x1]) (n := 2) (Nat.le_of_ble_eq_true rfl)
  rw [lg_entry_eq]
  generalize (lg_sl ([.ref aR, .int x1]) ++ List.replicate (2 - (lg_sl ([.ref aR, .int x1])).length) Slot.unset).toArray = ls at hl ⊢
  have hl : lv_has ls 2 [(0, .ref aR), (1, .int x1)] := hl
  generalize hQe : MQ below (kQi D cy zr A (wX5_byteAt cy aR qR aH vR_j11 vR vR_tape)) ([.ref aR, .int x1] : List Value).toArray s 0 0 A = Q
  have J33 : ∀ (t0_33 : Int32), ∀ (H : Heap) (locs : List Loc) (ls : Array Slot), va_P D vwCl (wX5_byteAt cy aR qR aH vR_j11 vR vR_tape) H → va_D A (wX5_byteAt cy aR qR aH vR_j11 vR vR_tape) → va_S A s.heap H locs → lv_has ls 2 [] → fX5_byteAt_J33 t0_33 = some zr → W p l e ({ frames := 0, cells := 0, slots := 0, locals := 0 } : Room) s m ([.ref aR, .int x1] : List Value).toArray below meth c H locs 0 0 Q (F0 m 33 ls [.int t0_33]) := by
    intro t0_33 H locs ls hP hD hS hl hok
    unfold fX5_byteAt_J33 at hok
    cases hok
    subst hQe; exact W.iret hx hb hr (fun t ht hW => ⟨⟨_, (), rfl, rfl, by rw [ht]; exact hP, va_K.moved hW.alike hK, hD⟩, hS.F ht⟩) hS.2.2 dX5_byteAt_33
  have J32 : ∀ (H : Heap) (locs : List Loc) (ls : Array Slot), va_P D vwCl (wX5_byteAt cy aR qR aH vR_j11 vR vR_tape) H → va_D A (wX5_byteAt cy aR qR aH vR_j11 vR vR_tape) → va_S A s.heap H locs → lv_has ls 2 [] → fX5_byteAt_J32 = some zr → W p l e ({ frames := 0, cells := 0, slots := 0, locals := 0 } : Room) s m ([.ref aR, .int x1] : List Value).toArray below meth c H locs 0 0 Q (F0 m 32 ls []) := by
    intro  H locs ls hP hD hS hl hok
    unfold fX5_byteAt_J32 at hok
    refine lv_iconst (v := -1) hx hb dX5_byteAt_32 (by decide) ?_
    exact J33 (-1 : Int32) H locs ls hP hD hS (lv_sub hl [] rfl) hok
  unfold fX5_byteAt at hok
  obtain ⟨H, hH⟩ : ∃ H, H = s.heap := ⟨_, rfl⟩
  obtain ⟨locs, hlc⟩ : ∃ x : List Loc, x = [] := ⟨_, rfl⟩
  have hP : va_P D vwCl (wX5_byteAt cy aR qR aH vR_j11 vR vR_tape) H := by rw [hH]; exact hP
  have hS : va_S A s.heap H locs := by rw [hH, hlc]; exact hS
  rw [show W p l e _ s m _ below meth c s.heap [] = W p l e _ s m _ below meth c H locs from by rw [hH, hlc]]
  refine lv_iload_n hx hb dX5_byteAt_0 rfl (lv_at hl 1 rfl) ?_
  refine lv_if_lt (tgt := 32) hx hb dX5_byteAt_1 (by decide) (fun c1 => ?_) (fun c1 => ?_)
  · have hok := k_pos c1 hok
    exact J32  H locs ls hP hD hS (lv_sub hl [] rfl) hok
  · have hok := k_neg c1 hok
    refine lv_iload_n hx hb dX5_byteAt_4 rfl (lv_at hl 1 rfl) ?_
    refine lv_aload_n hx hb dX5_byteAt_5 rfl (lv_at hl 0 rfl) ?_
    refine va_get (D := D) (ci := 4) (v := .int (vR 6)) (C := RX5) (T := TX5) (N := 13) hx hb ht0 niX5 hown hK hP 0 rfl rfl 6 (by decide) (ht0 _ wd267) (fun _ h9 => h9) rfl dX5_byteAt_6 ?_
    refine lv_icmp_ge (tgt := 32) hx hb dX5_byteAt_9 (by decide) (fun c9 => ?_) (fun c9 => ?_)
    · have hok := k_pos c9 hok
      exact J32  H locs ls hP hD hS (lv_sub hl [] rfl) hok
    · have hok := k_neg c9 hok
      refine lv_iload_n hx hb dX5_byteAt_12 rfl (lv_at hl 1 rfl) ?_
      refine lv_sipush (v := 900) hx hb dX5_byteAt_13 (by decide) ?_
      refine lv_icmp_ge (tgt := 32) hx hb dX5_byteAt_16 (by decide) (fun c16 => ?_) (fun c16 => ?_)
      · have hok := k_pos c16 hok
        exact J32  H locs ls hP hD hS (lv_sub hl [] rfl) hok
      · have hok := k_neg c16 hok
        refine lv_aload_n hx hb dX5_byteAt_19 rfl (lv_at hl 0 rfl) ?_
        refine va_get (D := D) (ci := 4) (v := .ref (qR 0)) (C := RX5) (T := TX5) (N := 13) hx hb ht0 niX5 hown hK hP 0 rfl rfl 0 (by decide) (ht0 _ wd263) (fun _ h9 => h9) rfl dX5_byteAt_20 ?_
        refine lv_iload_n hx hb dX5_byteAt_23 rfl (lv_at hl 1 rfl) ?_
        obtain ⟨g24, hok⟩ := gd_some hok
        refine va_bald hx hb hK hP 1 1 rfl rfl (okI_in g24) dX5_byteAt_24 ?_
        refine lv_sipush (v := 255) hx hb dX5_byteAt_25 (by decide) ?_
        refine lv_iand hx hb dX5_byteAt_28 ?_
        refine lv_goto (tgt := 33) hx hb dX5_byteAt_29 (by decide) ?_
        exact J33 ((vR_tape x1.toNatClampNeg) &&& (255 : Int32)) H locs ls hP hD hS (lv_sub hl [] rfl) hok
def wsX5_takeLetters : List Cond := .code yX5_takeLetters cX5_takeLetters 2 none :: W0
abbrev wX5_takeLetters (cy : Nat → ClassId) (aR : Nat) (qR : Nat → Nat) (aH : Nat) (vR_j11 : Int64) (vR : Nat → Int32) (vR_tape : Nat → Int32) : va_W := [(aR, oX5 vR qR vR_j11 aH), (qR 0, rB cy 900 vR_tape)]
set_option maxHeartbeats 4000000 in
set_option maxRecDepth 100000 in
theorem kX5_takeLetters (l : Launch) (D : va_G) (cy : Nat → ClassId) (sz : Nat) (aR : Nat) (qR : Nat → Nat) (aH : Nat) (vR_j11 : Int64) (vR : Nat → Int32) (vR_tape : Nat → Int32) (z_vR_j11 : Int64) (z_vR : Nat → Int32) (hok : fX5_takeLetters vR_j11 vR vR_tape = some (z_vR_j11, z_vR)) (A : Nat → Prop) (hAe : va_A (wX5_takeLetters cy aR qR aH vR_j11 vR vR_tape) sz = A) : Met l yX5_takeLetters wsX5_takeLetters ({ frames := 0, cells := 0, slots := 0, locals := 0 } : Room) (kPre D cy [.ref aR] (wX5_takeLetters cy aR qR aH vR_j11 vR vR_tape) sz) (kQv D cy A (wX5_takeLetters cy aR qR aH z_vR_j11 z_vR vR_tape)) 0 0 A := by
  refine Met.ofW (cc := cX5_takeLetters) (maxL := 2) (ret := none) (by decide) rfl ?_
  intro p e s m args below meth c s₁ B hml hv
  obtain ⟨rfl, hsz, hP, hK, hD0, hN⟩ := hv
  have hx := B.exec
  have hb := B.bytes
  have hr := B.returns
  have ht0 : ∀ w ∈ W0, w.before _ s = true := fun w h => atoms_spec (ws := wsX5_takeLetters) B.pre w (List.mem_cons_of_mem _ h)
  have hown : s.vm.findClass RX5 = some m.cls := findClass_of_methodNamed B.named
  have hlocks := B.notSynchronized
  subst hsz
  have hD : va_D A (wX5_takeLetters cy aR qR aH vR_j11 vR vR_tape) := by rw [← hAe]; exact hD0.self
  have hA : ∀ q : Nat, s.heap.size ≤ q → A q := fun q h => by rw [← hAe]; exact Or.inr h
  have hS : va_S A s.heap s.heap [] := va_S.rf
  have hl := lv_entry ([.ref aR]) (n := 2) (Nat.le_of_ble_eq_true rfl)
  rw [lg_entry_eq]
  generalize (lg_sl ([.ref aR]) ++ List.replicate (2 - (lg_sl ([.ref aR])).length) Slot.unset).toArray = ls at hl ⊢
  have hl : lv_has ls 2 [(0, .ref aR)] := hl
  generalize hQe : MQ below (kQv D cy A (wX5_takeLetters cy aR qR aH z_vR_j11 z_vR vR_tape)) ([.ref aR] : List Value).toArray s 0 0 A = Q
  have J112 : ∀ (t0_112 : Int32) (vR_11_112 : Int64) (vR_112 : Nat → Int32), ∀ (H : Heap) (locs : List Loc) (ls : Array Slot), va_P D vwCl (wX5_takeLetters cy aR qR aH vR_11_112 vR_112 vR_tape) H → va_D A (wX5_takeLetters cy aR qR aH vR_11_112 vR_112 vR_tape) → va_S A s.heap H locs → lv_has ls 2 [] → fX5_takeLetters_J112 t0_112 vR_11_112 vR_112 = some (z_vR_j11, z_vR) → W p l e ({ frames := 0, cells := 0, slots := 0, locals := 0 } : Room) s m ([.ref aR] : List Value).toArray below meth c H locs 0 0 Q (F0 m 112 ls [.int t0_112, .ref aR]) := by
    intro t0_112 vR_11_112 vR_112 H locs ls hP hD hS hl hok
    unfold fX5_takeLetters_J112 at hok
    refine va_put (D := D) (ci := 4) (v := .int t0_112) (ty := .int) (C := RX5) (T := TX5) (N := 13) hx hb ht0 niX5 tyX5 tyX5_ok nmX5 hown hK hP hD hS 0 rfl rfl 7 (by decide) (ht0 _ wd269) (fun _ h9 => h9) rfl (by decide +kernel) rfl rfl (Nat.le_of_ble_eq_true rfl) dX5_takeLetters_112 (fun H locs hP hD hS => ?_)
    have hP : va_P D vwCl (wX5_takeLetters cy aR qR aH vR_11_112 (upd vR_112 7 t0_112) vR_tape) H := hP
    have hD : va_D A (wX5_takeLetters cy aR qR aH vR_11_112 (upd vR_112 7 t0_112) vR_tape) := hD
    cases hok
    subst hQe; exact W.vret hx hb hr (fun t ht hW => ⟨⟨(), rfl, trivial, by rw [ht]; exact hP, va_K.moved hW.alike hK, hD⟩, hS.F ht⟩) hS.2.2 dX5_takeLetters_115
  have J92 : ∀ (vR_11_92 : Int64) (vR_92 : Nat → Int32), ∀ (H : Heap) (locs : List Loc) (ls : Array Slot), va_P D vwCl (wX5_takeLetters cy aR qR aH vR_11_92 vR_92 vR_tape) H → va_D A (wX5_takeLetters cy aR qR aH vR_11_92 vR_92 vR_tape) → va_S A s.heap H locs → lv_has ls 2 [(0, .ref aR)] → fX5_takeLetters_J92 vR_11_92 vR_92 = some (z_vR_j11, z_vR) → W p l e ({ frames := 0, cells := 0, slots := 0, locals := 0 } : Room) s m ([.ref aR] : List Value).toArray below meth c H locs 0 0 Q (F0 m 92 ls []) := by
    intro vR_11_92 vR_92 H locs ls hP hD hS hl hok
    unfold fX5_takeLetters_J92 at hok
    refine lv_aload_n hx hb dX5_takeLetters_92 rfl (lv_at hl 0 rfl) ?_
    refine lv_aload_n hx hb dX5_takeLetters_93 rfl (lv_at hl 0 rfl) ?_
    refine va_get (D := D) (ci := 4) (v := .int (vR_92 9)) (C := RX5) (T := TX5) (N := 13) hx hb ht0 niX5 hown hK hP 0 rfl rfl 9 (by decide) (ht0 _ wd270) (fun _ h9 => h9) rfl dX5_takeLetters_94 ?_
    refine lv_aload_n hx hb dX5_takeLetters_97 rfl (lv_at hl 0 rfl) ?_
    refine va_get (D := D) (ci := 4) (v := .int (vR_92 8)) (C := RX5) (T := TX5) (N := 13) hx hb ht0 niX5 hown hK hP 0 rfl rfl 8 (by decide) (ht0 _ wd265) (fun _ h9 => h9) rfl dX5_takeLetters_98 ?_
    refine lv_isub hx hb dX5_takeLetters_101 ?_
    refine lv_bipush (v := 8) hx hb dX5_takeLetters_102 (by decide) ?_
    refine lv_icmp_gt (tgt := 111) hx hb dX5_takeLetters_104 (by decide) (fun c104 => ?_) (fun c104 => ?_)
    · have hok := k_pos c104 hok
      refine lv_iconst (v := 4) hx hb dX5_takeLetters_111 (by decide) ?_
      exact J112 (4 : Int32) vR_11_92 vR_92 H locs ls hP hD hS (lv_sub hl [] rfl) hok
    · have hok := k_neg c104 hok
      refine lv_iconst (v := 1) hx hb dX5_takeLetters_107 (by decide) ?_
      refine lv_goto (tgt := 112) hx hb dX5_takeLetters_108 (by decide) ?_
      exact J112 (1 : Int32) vR_11_92 vR_92 H locs ls hP hD hS (lv_sub hl [] rfl) hok
  have L10 : ∀ (fuel : Nat) (y1_10 : Int32) (vR_11_10 : Int64) (vR_10 : Nat → Int32), ∀ (H : Heap) (locs : List Loc) (ls : Array Slot), va_P D vwCl (wX5_takeLetters cy aR qR aH vR_11_10 vR_10 vR_tape) H → va_D A (wX5_takeLetters cy aR qR aH vR_11_10 vR_10 vR_tape) → va_S A s.heap H locs → lv_has ls 2 [(0, .ref aR), (1, .int y1_10)] → lp (fX5_takeLetters_B10 vR_tape) fuel (y1_10, vR_11_10, vR_10) = some (z_vR_j11, z_vR) → W p l e ({ frames := 0, cells := 0, slots := 0, locals := 0 } : Room) s m ([.ref aR] : List Value).toArray below meth c H locs 0 0 Q (F0 m 10 ls []) := by
    intro fuel
    induction fuel with
    | zero => intro y1_10 vR_11_10 vR_10 H locs ls hP hD hS hl hok; exact (lp_0 hok).elim
    | succ fuel ih10 =>
      intro y1_10 vR_11_10 vR_10 H locs ls hP hD hS hl hok
      obtain ⟨y10, hok, hL10, hR10⟩ := lp_step hok
      unfold fX5_takeLetters_B10 at hok
      try dsimp only at hok
      refine lv_iload_n hx hb dX5_takeLetters_10 rfl (lv_at hl 1 rfl) ?_
      refine lv_if_lt (tgt := 92) hx hb dX5_takeLetters_11 (by decide) (fun c11 => ?_) (fun c11 => ?_)
      · have hok := k_pos c11 hok
        obtain ⟨e10, hok, he10⟩ := ex_some hok
        have hok := hok.trans (congrArg some (hL10 _ he10))
        exact J92 vR_11_10 vR_10 H locs ls hP hD hS (lv_sub hl [0] rfl) hok
      · have hok := k_neg c11 hok
        refine lv_iload_n hx hb dX5_takeLetters_14 rfl (lv_at hl 1 rfl) ?_
        refine lv_aload_n hx hb dX5_takeLetters_15 rfl (lv_at hl 0 rfl) ?_
        refine va_get (D := D) (ci := 4) (v := .int (vR_10 6)) (C := RX5) (T := TX5) (N := 13) hx hb ht0 niX5 hown hK hP 0 rfl rfl 6 (by decide) (ht0 _ wd267) (fun _ h9 => h9) rfl dX5_takeLetters_16 ?_
        refine lv_icmp_ge (tgt := 92) hx hb dX5_takeLetters_19 (by decide) (fun c19 => ?_) (fun c19 => ?_)
        · have hok := k_pos c19 hok
          obtain ⟨e10, hok, he10⟩ := ex_some hok
          have hok := hok.trans (congrArg some (hL10 _ he10))
          exact J92 vR_11_10 vR_10 H locs ls hP hD hS (lv_sub hl [0] rfl) hok
        · have hok := k_neg c19 hok
          refine lv_iload_n hx hb dX5_takeLetters_22 rfl (lv_at hl 1 rfl) ?_
          refine lv_sipush (v := 900) hx hb dX5_takeLetters_23 (by decide) ?_
          refine lv_icmp_ge (tgt := 92) hx hb dX5_takeLetters_26 (by decide) (fun c26 => ?_) (fun c26 => ?_)
          · have hok := k_pos c26 hok
            obtain ⟨e10, hok, he10⟩ := ex_some hok
            have hok := hok.trans (congrArg some (hL10 _ he10))
            exact J92 vR_11_10 vR_10 H locs ls hP hD hS (lv_sub hl [0] rfl) hok
          · have hok := k_neg c26 hok
            refine lv_aload_n hx hb dX5_takeLetters_29 rfl (lv_at hl 0 rfl) ?_
            refine va_get (D := D) (ci := 4) (v := .ref (qR 0)) (C := RX5) (T := TX5) (N := 13) hx hb ht0 niX5 hown hK hP 0 rfl rfl 0 (by decide) (ht0 _ wd263) (fun _ h9 => h9) rfl dX5_takeLetters_30 ?_
            refine lv_iload_n hx hb dX5_takeLetters_33 rfl (lv_at hl 1 rfl) ?_
            obtain ⟨g34, hok⟩ := gd_some hok
            refine va_bald hx hb hK hP 1 1 rfl rfl (okI_in g34) dX5_takeLetters_34 ?_
            refine lv_bipush (v := 97) hx hb dX5_takeLetters_35 (by decide) ?_
            refine lv_icmp_lt (tgt := 92) hx hb dX5_takeLetters_37 (by decide) (fun c37 => ?_) (fun c37 => ?_)
            · have hok := k_pos c37 hok
              obtain ⟨e10, hok, he10⟩ := ex_some hok
              have hok := hok.trans (congrArg some (hL10 _ he10))
              exact J92 vR_11_10 vR_10 H locs ls hP hD hS (lv_sub hl [0] rfl) hok
            · have hok := k_neg c37 hok
              refine lv_aload_n hx hb dX5_takeLetters_40 rfl (lv_at hl 0 rfl) ?_
              refine va_get (D := D) (ci := 4) (v := .ref (qR 0)) (C := RX5) (T := TX5) (N := 13) hx hb ht0 niX5 hown hK hP 0 rfl rfl 0 (by decide) (ht0 _ wd263) (fun _ h9 => h9) rfl dX5_takeLetters_41 ?_
              refine lv_iload_n hx hb dX5_takeLetters_44 rfl (lv_at hl 1 rfl) ?_
              obtain ⟨g45, hok⟩ := gd_some hok
              refine va_bald hx hb hK hP 1 1 rfl rfl (okI_in g45) dX5_takeLetters_45 ?_
              refine lv_bipush (v := 122) hx hb dX5_takeLetters_46 (by decide) ?_
              refine lv_icmp_le (tgt := 54) hx hb dX5_takeLetters_48 (by decide) (fun c48 => ?_) (fun c48 => ?_)
              · have hok := k_pos c48 hok
                refine lv_aload_n hx hb dX5_takeLetters_54 rfl (lv_at hl 0 rfl) ?_
                refine lv_aload_n hx hb dX5_takeLetters_55 rfl (lv_at hl 0 rfl) ?_
                refine va_get (D := D) (ci := 4) (v := .long vR_11_10) (C := RX5) (T := TX5) (N := 13) hx hb ht0 niX5 hown hK hP 0 rfl rfl 11 (by decide) (ht0 _ wd271) (fun _ h9 => h9) rfl dX5_takeLetters_56 ?_
                refine lv_ldc2 (v := 32) hx hb hown (ht0 _ wd268) dX5_takeLetters_59 ?_
                refine lv_lmul hx hb dX5_takeLetters_62 ?_
                refine lv_aload_n hx hb dX5_takeLetters_63 rfl (lv_at hl 0 rfl) ?_
                refine va_get (D := D) (ci := 4) (v := .ref (qR 0)) (C := RX5) (T := TX5) (N := 13) hx hb ht0 niX5 hown hK hP 0 rfl rfl 0 (by decide) (ht0 _ wd263) (fun _ h9 => h9) rfl dX5_takeLetters_64 ?_
                refine lv_iload_n hx hb dX5_takeLetters_67 rfl (lv_at hl 1 rfl) ?_
                obtain ⟨g68, hok⟩ := gd_some hok
                refine va_bald hx hb hK hP 1 1 rfl rfl (okI_in g68) dX5_takeLetters_68 ?_
                refine lv_bipush (v := 97) hx hb dX5_takeLetters_69 (by decide) ?_
                refine lv_isub hx hb dX5_takeLetters_71 ?_
                refine lv_iconst (v := 1) hx hb dX5_takeLetters_72 (by decide) ?_
                refine lv_iadd hx hb dX5_takeLetters_73 ?_
                refine lv_i2l (v := (((vR_tape y1_10.toNatClampNeg) - (97 : Int32)) + (1 : Int32)).toInt64) hx hb dX5_takeLetters_74 rfl ?_
                refine lv_ladd hx hb dX5_takeLetters_75 ?_
                refine va_put (D := D) (ci := 4) (v := .long ((vR_11_10 * (32 : Int64)) + (((vR_tape y1_10.toNatClampNeg) - (97 : Int32)) + (1 : Int32)).toInt64)) (ty := .long) (C := RX5) (T := TX5) (N := 13) hx hb ht0 niX5 tyX5 tyX5_ok nmX5 hown hK hP hD hS 0 rfl rfl 11 (by decide) (ht0 _ wd271) (fun _ h9 => h9) rfl (by decide +kernel) rfl rfl (Nat.le_of_ble_eq_true rfl) dX5_takeLetters_76 (fun H locs hP hD hS => ?_)
                have hP : va_P D vwCl (wX5_takeLetters cy aR qR aH ((vR_11_10 * (32 : Int64)) + (((vR_tape y1_10.toNatClampNeg) - (97 : Int32)) + (1 : Int32)).toInt64) vR_10 vR_tape) H := hP
                have hD : va_D A (wX5_takeLetters cy aR qR aH ((vR_11_10 * (32 : Int64)) + (((vR_tape y1_10.toNatClampNeg) - (97 : Int32)) + (1 : Int32)).toInt64) vR_10 vR_tape) := hD
                refine lv_aload_n hx hb dX5_takeLetters_79 rfl (lv_at hl 0 rfl) ?_
                refine lv_iload_n hx hb dX5_takeLetters_80 rfl (lv_at hl 1 rfl) ?_
                refine lv_iconst (v := 1) hx hb dX5_takeLetters_81 (by decide) ?_
                refine lv_iadd hx hb dX5_takeLetters_82 ?_
                refine va_put (D := D) (ci := 4) (v := .int (y1_10 + (1 : Int32))) (ty := .int) (C := RX5) (T := TX5) (N := 13) hx hb ht0 niX5 tyX5 tyX5_ok nmX5 hown hK hP hD hS 0 rfl rfl 9 (by decide) (ht0 _ wd270) (fun _ h9 => h9) rfl (by decide +kernel) rfl rfl (Nat.le_of_ble_eq_true rfl) dX5_takeLetters_83 (fun H locs hP hD hS => ?_)
                have hP : va_P D vwCl (wX5_takeLetters cy aR qR aH ((vR_11_10 * (32 : Int64)) + (((vR_tape y1_10.toNatClampNeg) - (97 : Int32)) + (1 : Int32)).toInt64) (upd vR_10 9 (y1_10 + (1 : Int32))) vR_tape) H := hP
                have hD : va_D A (wX5_takeLetters cy aR qR aH ((vR_11_10 * (32 : Int64)) + (((vR_tape y1_10.toNatClampNeg) - (97 : Int32)) + (1 : Int32)).toInt64) (upd vR_10 9 (y1_10 + (1 : Int32))) vR_tape) := hD
                refine lv_iinc (v := (y1_10 + 1)) (lv' := [(1, .int (y1_10 + 1)), (0, .ref aR)]) hx hb dX5_takeLetters_86 hl (k := 1) rfl (by first | rfl | decide) (by decide) rfl (fun ls hl => ?_)
                refine lv_goto (tgt := 10) hx hb dX5_takeLetters_89 (by decide) ?_
                exact ih10 (y1_10 + 1) ((vR_11_10 * (32 : Int64)) + (((vR_tape y1_10.toNatClampNeg) - (97 : Int32)) + (1 : Int32)).toInt64) (upd vR_10 9 (y1_10 + (1 : Int32))) H locs ls hP hD hS (lv_sub hl [1, 0] rfl) (hR10 _ (Option.some.inj hok).symm)
              · have hok := k_neg c48 hok
                obtain ⟨e10, hok, he10⟩ := ex_some hok
                have hok := hok.trans (congrArg some (hL10 _ he10))
                refine lv_goto (tgt := 92) hx hb dX5_takeLetters_51 (by decide) ?_
                exact J92 vR_11_10 vR_10 H locs ls hP hD hS (lv_sub hl [0] rfl) hok
  unfold fX5_takeLetters at hok
  obtain ⟨H, hH⟩ : ∃ H, H = s.heap := ⟨_, rfl⟩
  obtain ⟨locs, hlc⟩ : ∃ x : List Loc, x = [] := ⟨_, rfl⟩
  have hP : va_P D vwCl (wX5_takeLetters cy aR qR aH vR_j11 vR vR_tape) H := by rw [hH]; exact hP
  have hS : va_S A s.heap H locs := by rw [hH, hlc]; exact hS
  rw [show W p l e _ s m _ below meth c s.heap [] = W p l e _ s m _ below meth c H locs from by rw [hH, hlc]]
  refine lv_aload_n hx hb dX5_takeLetters_0 rfl (lv_at hl 0 rfl) ?_
  refine lv_lconst (v := 0) hx hb dX5_takeLetters_1 (by decide) ?_
  refine va_put (D := D) (ci := 4) (v := .long (0 : Int64)) (ty := .long) (C := RX5) (T := TX5) (N := 13) hx hb ht0 niX5 tyX5 tyX5_ok nmX5 hown hK hP hD hS 0 rfl rfl 11 (by decide) (ht0 _ wd271) (fun _ h9 => h9) rfl (by decide +kernel) rfl rfl (Nat.le_of_ble_eq_true rfl) dX5_takeLetters_2 (fun H locs hP hD hS => ?_)
  have hP : va_P D vwCl (wX5_takeLetters cy aR qR aH (0 : Int64) vR vR_tape) H := hP
  have hD : va_D A (wX5_takeLetters cy aR qR aH (0 : Int64) vR vR_tape) := hD
  refine lv_aload_n hx hb dX5_takeLetters_5 rfl (lv_at hl 0 rfl) ?_
  refine va_get (D := D) (ci := 4) (v := .int (vR 8)) (C := RX5) (T := TX5) (N := 13) hx hb ht0 niX5 hown hK hP 0 rfl rfl 8 (by decide) (ht0 _ wd265) (fun _ h9 => h9) rfl dX5_takeLetters_6 ?_
  refine lv_istore_n (lv' := [(1, .int (vR 8)), (0, .ref aR)]) hx hb dX5_takeLetters_9 rfl hl (by decide) rfl (fun ls hl => ?_)
  exact L10 5000 (vR 8) (0 : Int64) vR H locs ls hP hD hS (lv_sub hl [1, 0] rfl) hok
def wsX5_takeDigits : List Cond := .code yX5_takeDigits cX5_takeDigits 2 none :: W0
abbrev wX5_takeDigits (cy : Nat → ClassId) (aR : Nat) (qR : Nat → Nat) (aH : Nat) (vR_j11 : Int64) (vR : Nat → Int32) (vR_tape : Nat → Int32) : va_W := [(aR, oX5 vR qR vR_j11 aH), (qR 0, rB cy 900 vR_tape)]
set_option maxHeartbeats 4000000 in
set_option maxRecDepth 100000 in
theorem kX5_takeDigits (l : Launch) (D : va_G) (cy : Nat → ClassId) (sz : Nat) (aR : Nat) (qR : Nat → Nat) (aH : Nat) (vR_j11 : Int64) (vR : Nat → Int32) (vR_tape : Nat → Int32) (z_vR : Nat → Int32) (hok : fX5_takeDigits vR_j11 vR vR_tape = some z_vR) (A : Nat → Prop) (hAe : va_A (wX5_takeDigits cy aR qR aH vR_j11 vR vR_tape) sz = A) : Met l yX5_takeDigits wsX5_takeDigits ({ frames := 0, cells := 0, slots := 0, locals := 0 } : Room) (kPre D cy [.ref aR] (wX5_takeDigits cy aR qR aH vR_j11 vR vR_tape) sz) (kQv D cy A (wX5_takeDigits cy aR qR aH vR_j11 z_vR vR_tape)) 0 0 A := by
  refine Met.ofW (cc := cX5_takeDigits) (maxL := 2) (ret := none) (by decide) rfl ?_
  intro p e s m args below meth c s₁ B hml hv
  obtain ⟨rfl, hsz, hP, hK, hD0, hN⟩ := hv
  have hx := B.exec
  have hb := B.bytes
  have hr := B.returns
  have ht0 : ∀ w ∈ W0, w.before _ s = true := fun w h => atoms_spec (ws := wsX5_takeDigits) B.pre w (List.mem_cons_of_mem _ h)
  have hown : s.vm.findClass RX5 = some m.cls := findClass_of_methodNamed B.named
  have hlocks := B.notSynchronized
  subst hsz
  have hD : va_D A (wX5_takeDigits cy aR qR aH vR_j11 vR vR_tape) := by rw [← hAe]; exact hD0.self
  have hA : ∀ q : Nat, s.heap.size ≤ q → A q := fun q h => by rw [← hAe]; exact Or.inr h
  have hS : va_S A s.heap s.heap [] := va_S.rf
  have hl := lv_entry ([.ref aR]) (n := 2) (Nat.le_of_ble_eq_true rfl)
  rw [lg_entry_eq]
  generalize (lg_sl ([.ref aR]) ++ List.replicate (2 - (lg_sl ([.ref aR])).length) Slot.unset).toArray = ls at hl ⊢
  have hl : lv_has ls 2 [(0, .ref aR)] := hl
  generalize hQe : MQ below (kQv D cy A (wX5_takeDigits cy aR qR aH vR_j11 z_vR vR_tape)) ([.ref aR] : List Value).toArray s 0 0 A = Q
  have J107 : ∀ (t0_107 : Int32) (vR_107 : Nat → Int32), ∀ (H : Heap) (locs : List Loc) (ls : Array Slot), va_P D vwCl (wX5_takeDigits cy aR qR aH vR_j11 vR_107 vR_tape) H → va_D A (wX5_takeDigits cy aR qR aH vR_j11 vR_107 vR_tape) → va_S A s.heap H locs → lv_has ls 2 [] → fX5_takeDigits_J107 t0_107 vR_107 = some z_vR → W p l e ({ frames := 0, cells := 0, slots := 0, locals := 0 } : Room) s m ([.ref aR] : List Value).toArray below meth c H locs 0 0 Q (F0 m 107 ls [.int t0_107, .ref aR]) := by
    intro t0_107 vR_107 H locs ls hP hD hS hl hok
    unfold fX5_takeDigits_J107 at hok
    refine va_put (D := D) (ci := 4) (v := .int t0_107) (ty := .int) (C := RX5) (T := TX5) (N := 13) hx hb ht0 niX5 tyX5 tyX5_ok nmX5 hown hK hP hD hS 0 rfl rfl 7 (by decide) (ht0 _ wd269) (fun _ h9 => h9) rfl (by decide +kernel) rfl rfl (Nat.le_of_ble_eq_true rfl) dX5_takeDigits_107 (fun H locs hP hD hS => ?_)
    have hP : va_P D vwCl (wX5_takeDigits cy aR qR aH vR_j11 (upd vR_107 7 t0_107) vR_tape) H := hP
    have hD : va_D A (wX5_takeDigits cy aR qR aH vR_j11 (upd vR_107 7 t0_107) vR_tape) := hD
    cases hok
    subst hQe; exact W.vret hx hb hr (fun t ht hW => ⟨⟨(), rfl, trivial, by rw [ht]; exact hP, va_K.moved hW.alike hK, hD⟩, hS.F ht⟩) hS.2.2 dX5_takeDigits_110
  have J88 : ∀ (vR_88 : Nat → Int32), ∀ (H : Heap) (locs : List Loc) (ls : Array Slot), va_P D vwCl (wX5_takeDigits cy aR qR aH vR_j11 vR_88 vR_tape) H → va_D A (wX5_takeDigits cy aR qR aH vR_j11 vR_88 vR_tape) → va_S A s.heap H locs → lv_has ls 2 [(0, .ref aR)] → fX5_takeDigits_J88 vR_88 = some z_vR → W p l e ({ frames := 0, cells := 0, slots := 0, locals := 0 } : Room) s m ([.ref aR] : List Value).toArray below meth c H locs 0 0 Q (F0 m 88 ls []) := by
    intro vR_88 H locs ls hP hD hS hl hok
    unfold fX5_takeDigits_J88 at hok
    refine lv_aload_n hx hb dX5_takeDigits_88 rfl (lv_at hl 0 rfl) ?_
    refine lv_aload_n hx hb dX5_takeDigits_89 rfl (lv_at hl 0 rfl) ?_
    refine va_get (D := D) (ci := 4) (v := .int (vR_88 9)) (C := RX5) (T := TX5) (N := 13) hx hb ht0 niX5 hown hK hP 0 rfl rfl 9 (by decide) (ht0 _ wd270) (fun _ h9 => h9) rfl dX5_takeDigits_90 ?_
    refine lv_aload_n hx hb dX5_takeDigits_93 rfl (lv_at hl 0 rfl) ?_
    refine va_get (D := D) (ci := 4) (v := .int (vR_88 8)) (C := RX5) (T := TX5) (N := 13) hx hb ht0 niX5 hown hK hP 0 rfl rfl 8 (by decide) (ht0 _ wd265) (fun _ h9 => h9) rfl dX5_takeDigits_94 ?_
    refine lv_isub hx hb dX5_takeDigits_97 ?_
    refine lv_iconst (v := 3) hx hb dX5_takeDigits_98 (by decide) ?_
    refine lv_icmp_gt (tgt := 106) hx hb dX5_takeDigits_99 (by decide) (fun c99 => ?_) (fun c99 => ?_)
    · have hok := k_pos c99 hok
      refine lv_iconst (v := 4) hx hb dX5_takeDigits_106 (by decide) ?_
      exact J107 (4 : Int32) vR_88 H locs ls hP hD hS (lv_sub hl [] rfl) hok
    · have hok := k_neg c99 hok
      refine lv_iconst (v := 2) hx hb dX5_takeDigits_102 (by decide) ?_
      refine lv_goto (tgt := 107) hx hb dX5_takeDigits_103 (by decide) ?_
      exact J107 (2 : Int32) vR_88 H locs ls hP hD hS (lv_sub hl [] rfl) hok
  have L10 : ∀ (fuel : Nat) (y1_10 : Int32) (vR_10 : Nat → Int32), ∀ (H : Heap) (locs : List Loc) (ls : Array Slot), va_P D vwCl (wX5_takeDigits cy aR qR aH vR_j11 vR_10 vR_tape) H → va_D A (wX5_takeDigits cy aR qR aH vR_j11 vR_10 vR_tape) → va_S A s.heap H locs → lv_has ls 2 [(0, .ref aR), (1, .int y1_10)] → lp (fX5_takeDigits_B10 vR_tape) fuel (y1_10, vR_10) = some z_vR → W p l e ({ frames := 0, cells := 0, slots := 0, locals := 0 } : Room) s m ([.ref aR] : List Value).toArray below meth c H locs 0 0 Q (F0 m 10 ls []) := by
    intro fuel
    induction fuel with
    | zero => intro y1_10 vR_10 H locs ls hP hD hS hl hok; exact (lp_0 hok).elim
    | succ fuel ih10 =>
      intro y1_10 vR_10 H locs ls hP hD hS hl hok
      obtain ⟨y10, hok, hL10, hR10⟩ := lp_step hok
      unfold fX5_takeDigits_B10 at hok
      try dsimp only at hok
      refine lv_iload_n hx hb dX5_takeDigits_10 rfl (lv_at hl 1 rfl) ?_
      refine lv_if_lt (tgt := 88) hx hb dX5_takeDigits_11 (by decide) (fun c11 => ?_) (fun c11 => ?_)
      · have hok := k_pos c11 hok
        obtain ⟨e10, hok, he10⟩ := ex_some hok
        have hok := hok.trans (congrArg some (hL10 _ he10))
        exact J88 vR_10 H locs ls hP hD hS (lv_sub hl [0] rfl) hok
      · have hok := k_neg c11 hok
        refine lv_iload_n hx hb dX5_takeDigits_14 rfl (lv_at hl 1 rfl) ?_
        refine lv_aload_n hx hb dX5_takeDigits_15 rfl (lv_at hl 0 rfl) ?_
        refine va_get (D := D) (ci := 4) (v := .int (vR_10 6)) (C := RX5) (T := TX5) (N := 13) hx hb ht0 niX5 hown hK hP 0 rfl rfl 6 (by decide) (ht0 _ wd267) (fun _ h9 => h9) rfl dX5_takeDigits_16 ?_
        refine lv_icmp_ge (tgt := 88) hx hb dX5_takeDigits_19 (by decide) (fun c19 => ?_) (fun c19 => ?_)
        · have hok := k_pos c19 hok
          obtain ⟨e10, hok, he10⟩ := ex_some hok
          have hok := hok.trans (congrArg some (hL10 _ he10))
          exact J88 vR_10 H locs ls hP hD hS (lv_sub hl [0] rfl) hok
        · have hok := k_neg c19 hok
          refine lv_iload_n hx hb dX5_takeDigits_22 rfl (lv_at hl 1 rfl) ?_
          refine lv_sipush (v := 900) hx hb dX5_takeDigits_23 (by decide) ?_
          refine lv_icmp_ge (tgt := 88) hx hb dX5_takeDigits_26 (by decide) (fun c26 => ?_) (fun c26 => ?_)
          · have hok := k_pos c26 hok
            obtain ⟨e10, hok, he10⟩ := ex_some hok
            have hok := hok.trans (congrArg some (hL10 _ he10))
            exact J88 vR_10 H locs ls hP hD hS (lv_sub hl [0] rfl) hok
          · have hok := k_neg c26 hok
            refine lv_aload_n hx hb dX5_takeDigits_29 rfl (lv_at hl 0 rfl) ?_
            refine va_get (D := D) (ci := 4) (v := .ref (qR 0)) (C := RX5) (T := TX5) (N := 13) hx hb ht0 niX5 hown hK hP 0 rfl rfl 0 (by decide) (ht0 _ wd263) (fun _ h9 => h9) rfl dX5_takeDigits_30 ?_
            refine lv_iload_n hx hb dX5_takeDigits_33 rfl (lv_at hl 1 rfl) ?_
            obtain ⟨g34, hok⟩ := gd_some hok
            refine va_bald hx hb hK hP 1 1 rfl rfl (okI_in g34) dX5_takeDigits_34 ?_
            refine lv_bipush (v := 48) hx hb dX5_takeDigits_35 (by decide) ?_
            refine lv_icmp_lt (tgt := 88) hx hb dX5_takeDigits_37 (by decide) (fun c37 => ?_) (fun c37 => ?_)
            · have hok := k_pos c37 hok
              obtain ⟨e10, hok, he10⟩ := ex_some hok
              have hok := hok.trans (congrArg some (hL10 _ he10))
              exact J88 vR_10 H locs ls hP hD hS (lv_sub hl [0] rfl) hok
            · have hok := k_neg c37 hok
              refine lv_aload_n hx hb dX5_takeDigits_40 rfl (lv_at hl 0 rfl) ?_
              refine va_get (D := D) (ci := 4) (v := .ref (qR 0)) (C := RX5) (T := TX5) (N := 13) hx hb ht0 niX5 hown hK hP 0 rfl rfl 0 (by decide) (ht0 _ wd263) (fun _ h9 => h9) rfl dX5_takeDigits_41 ?_
              refine lv_iload_n hx hb dX5_takeDigits_44 rfl (lv_at hl 1 rfl) ?_
              obtain ⟨g45, hok⟩ := gd_some hok
              refine va_bald hx hb hK hP 1 1 rfl rfl (okI_in g45) dX5_takeDigits_45 ?_
              refine lv_bipush (v := 57) hx hb dX5_takeDigits_46 (by decide) ?_
              refine lv_icmp_le (tgt := 54) hx hb dX5_takeDigits_48 (by decide) (fun c48 => ?_) (fun c48 => ?_)
              · have hok := k_pos c48 hok
                refine lv_aload_n hx hb dX5_takeDigits_54 rfl (lv_at hl 0 rfl) ?_
                refine lv_aload_n hx hb dX5_takeDigits_55 rfl (lv_at hl 0 rfl) ?_
                refine va_get (D := D) (ci := 4) (v := .int (vR_10 10)) (C := RX5) (T := TX5) (N := 13) hx hb ht0 niX5 hown hK hP 0 rfl rfl 10 (by decide) (ht0 _ wd272) (fun _ h9 => h9) rfl dX5_takeDigits_56 ?_
                refine lv_bipush (v := 10) hx hb dX5_takeDigits_59 (by decide) ?_
                refine lv_imul hx hb dX5_takeDigits_61 ?_
                refine lv_aload_n hx hb dX5_takeDigits_62 rfl (lv_at hl 0 rfl) ?_
                refine va_get (D := D) (ci := 4) (v := .ref (qR 0)) (C := RX5) (T := TX5) (N := 13) hx hb ht0 niX5 hown hK hP 0 rfl rfl 0 (by decide) (ht0 _ wd263) (fun _ h9 => h9) rfl dX5_takeDigits_63 ?_
                refine lv_iload_n hx hb dX5_takeDigits_66 rfl (lv_at hl 1 rfl) ?_
                obtain ⟨g67, hok⟩ := gd_some hok
                refine va_bald hx hb hK hP 1 1 rfl rfl (okI_in g67) dX5_takeDigits_67 ?_
                refine lv_bipush (v := 48) hx hb dX5_takeDigits_68 (by decide) ?_
                refine lv_isub hx hb dX5_takeDigits_70 ?_
                refine lv_iadd hx hb dX5_takeDigits_71 ?_
                refine va_put (D := D) (ci := 4) (v := .int (((vR_10 10) * (10 : Int32)) + ((vR_tape y1_10.toNatClampNeg) - (48 : Int32)))) (ty := .int) (C := RX5) (T := TX5) (N := 13) hx hb ht0 niX5 tyX5 tyX5_ok nmX5 hown hK hP hD hS 0 rfl rfl 10 (by decide) (ht0 _ wd272) (fun _ h9 => h9) rfl (by decide +kernel) rfl rfl (Nat.le_of_ble_eq_true rfl) dX5_takeDigits_72 (fun H locs hP hD hS => ?_)
                have hP : va_P D vwCl (wX5_takeDigits cy aR qR aH vR_j11 (upd vR_10 10 (((vR_10 10) * (10 : Int32)) + ((vR_tape y1_10.toNatClampNeg) - (48 : Int32)))) vR_tape) H := hP
                have hD : va_D A (wX5_takeDigits cy aR qR aH vR_j11 (upd vR_10 10 (((vR_10 10) * (10 : Int32)) + ((vR_tape y1_10.toNatClampNeg) - (48 : Int32)))) vR_tape) := hD
                refine lv_aload_n hx hb dX5_takeDigits_75 rfl (lv_at hl 0 rfl) ?_
                refine lv_iload_n hx hb dX5_takeDigits_76 rfl (lv_at hl 1 rfl) ?_
                refine lv_iconst (v := 1) hx hb dX5_takeDigits_77 (by decide) ?_
                refine lv_iadd hx hb dX5_takeDigits_78 ?_
                refine va_put (D := D) (ci := 4) (v := .int (y1_10 + (1 : Int32))) (ty := .int) (C := RX5) (T := TX5) (N := 13) hx hb ht0 niX5 tyX5 tyX5_ok nmX5 hown hK hP hD hS 0 rfl rfl 9 (by decide) (ht0 _ wd270) (fun _ h9 => h9) rfl (by decide +kernel) rfl rfl (Nat.le_of_ble_eq_true rfl) dX5_takeDigits_79 (fun H locs hP hD hS => ?_)
                have hP : va_P D vwCl (wX5_takeDigits cy aR qR aH vR_j11 (upd (upd vR_10 9 (y1_10 + (1 : Int32))) 10 (((vR_10 10) * (10 : Int32)) + ((vR_tape y1_10.toNatClampNeg) - (48 : Int32)))) vR_tape) H := hP
                have hD : va_D A (wX5_takeDigits cy aR qR aH vR_j11 (upd (upd vR_10 9 (y1_10 + (1 : Int32))) 10 (((vR_10 10) * (10 : Int32)) + ((vR_tape y1_10.toNatClampNeg) - (48 : Int32)))) vR_tape) := hD
                refine lv_iinc (v := (y1_10 + 1)) (lv' := [(1, .int (y1_10 + 1)), (0, .ref aR)]) hx hb dX5_takeDigits_82 hl (k := 1) rfl (by first | rfl | decide) (by decide) rfl (fun ls hl => ?_)
                refine lv_goto (tgt := 10) hx hb dX5_takeDigits_85 (by decide) ?_
                exact ih10 (y1_10 + 1) (upd (upd vR_10 9 (y1_10 + (1 : Int32))) 10 (((vR_10 10) * (10 : Int32)) + ((vR_tape y1_10.toNatClampNeg) - (48 : Int32)))) H locs ls hP hD hS (lv_sub hl [1, 0] rfl) (hR10 _ (Option.some.inj hok).symm)
              · have hok := k_neg c48 hok
                obtain ⟨e10, hok, he10⟩ := ex_some hok
                have hok := hok.trans (congrArg some (hL10 _ he10))
                refine lv_goto (tgt := 88) hx hb dX5_takeDigits_51 (by decide) ?_
                exact J88 vR_10 H locs ls hP hD hS (lv_sub hl [0] rfl) hok
  unfold fX5_takeDigits at hok
  obtain ⟨H, hH⟩ : ∃ H, H = s.heap := ⟨_, rfl⟩
  obtain ⟨locs, hlc⟩ : ∃ x : List Loc, x = [] := ⟨_, rfl⟩
  have hP : va_P D vwCl (wX5_takeDigits cy aR qR aH vR_j11 vR vR_tape) H := by rw [hH]; exact hP
  have hS : va_S A s.heap H locs := by rw [hH, hlc]; exact hS
  rw [show W p l e _ s m _ below meth c s.heap [] = W p l e _ s m _ below meth c H locs from by rw [hH, hlc]]
  refine lv_aload_n hx hb dX5_takeDigits_0 rfl (lv_at hl 0 rfl) ?_
  refine lv_iconst (v := 0) hx hb dX5_takeDigits_1 (by decide) ?_
  refine va_put (D := D) (ci := 4) (v := .int 0) (ty := .int) (C := RX5) (T := TX5) (N := 13) hx hb ht0 niX5 tyX5 tyX5_ok nmX5 hown hK hP hD hS 0 rfl rfl 10 (by decide) (ht0 _ wd272) (fun _ h9 => h9) rfl (by decide +kernel) rfl rfl (Nat.le_of_ble_eq_true rfl) dX5_takeDigits_2 (fun H locs hP hD hS => ?_)
  have hP : va_P D vwCl (wX5_takeDigits cy aR qR aH vR_j11 (upd vR 10 (0 : Int32)) vR_tape) H := hP
  have hD : va_D A (wX5_takeDigits cy aR qR aH vR_j11 (upd vR 10 (0 : Int32)) vR_tape) := hD
  refine lv_aload_n hx hb dX5_takeDigits_5 rfl (lv_at hl 0 rfl) ?_
  refine va_get (D := D) (ci := 4) (v := .int (vR 8)) (C := RX5) (T := TX5) (N := 13) hx hb ht0 niX5 hown hK hP 0 rfl rfl 8 (by decide) (ht0 _ wd265) (fun _ h9 => h9) rfl dX5_takeDigits_6 ?_
  refine lv_istore_n (lv' := [(1, .int (vR 8)), (0, .ref aR)]) hx hb dX5_takeDigits_9 rfl hl (by decide) rfl (fun ls hl => ?_)
  exact L10 5000 (vR 8) (upd vR 10 (0 : Int32)) H locs ls hP hD hS (lv_sub hl [1, 0] rfl) hok
