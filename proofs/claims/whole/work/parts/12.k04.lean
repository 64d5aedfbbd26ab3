def wsX3_fewestForPlace : List Cond := .code yX3_fewestForPlace cX3_fewestForPlace 6 (some .int) :: W0
abbrev wX3_fewestForPlace (cy : Nat → ClassId) (aG : Nat) (aH : Nat) (aD : Nat) (qD : Nat → Nat) (qH : Nat → Nat) (qG : Nat → Nat) (qW : Nat → Nat) (aH0 : Nat) (fvW_4 : Nat) (vD : Nat → Int32) (vD_now : Nat → Int32) (vH : Nat → Int32) (vH_kinds : Nat → Int32) (vG : Nat → Int32) (vW : Nat → Int32) (vW_who : Nat → Int32) (vW_cells : Nat → Int32) (vH_sorts : Nat → Int32) (vH_next : Nat → Int32) (vW_inFront : Nat → Int32) (vH_sizes : Nat → Int32) (vH_width : Nat → Int32) (vH_doorOne : Nat → Int32) (vH_doorTwo : Nat → Int32) : va_W := [(aD, oX1 vD qD), (qD 0, rI cy 9 vD_now), (aH, oX4 vH qH), (qH 14, rI cy 7 vH_kinds), (aG, oX3 vG qG), (qG 0, oX6 vW qW fvW_4), (qW 1, rI cy 36 vW_who), (qW 0, rI cy 7 vW_cells), (qH 8, rI cy 4 vH_sorts), (qH 10, rI cy 36 vH_next), (qW 2, rI cy 7 vW_inFront), (qH 15, rI cy 7 vH_sizes), (qH 11, rI cy 36 vH_width), (qH 12, rI cy 5 vH_doorOne), (qH 13, rI cy 5 vH_doorTwo)]
set_option maxHeartbeats 4000000 in
set_option maxRecDepth 100000 in
theorem kX3_fewestForPlace (l : Launch) (D : va_G) (cy : Nat → ClassId) (sz : Nat) (aG : Nat) (aH : Nat) (aD : Nat) (qD : Nat → Nat) (qH : Nat → Nat) (qG : Nat → Nat) (qW : Nat → Nat) (aH0 : Nat) (vD : Nat → Int32) (vD_now : Nat → Int32) (vH : Nat → Int32) (vH_kinds : Nat → Int32) (vG : Nat → Int32) (vW : Nat → Int32) (vW_who : Nat → Int32) (vW_cells : Nat → Int32) (vH_sorts : Nat → Int32) (vH_next : Nat → Int32) (vW_inFront : Nat → Int32) (vH_sizes : Nat → Int32) (vH_width : Nat → Int32) (vH_doorOne : Nat → Int32) (vH_doorTwo : Nat → Int32) (x3 : Int32) (x4 : Int32) (x5 : Int32) (zr : Int32) (z_vW : Nat → Int32) (z_vW_who : Nat → Int32) (z_vW_cells : Nat → Int32) (z_vW_inFront : Nat → Int32) (z_aH0 : Nat) (hok : fX3_fewestForPlace aH aH0 vD vD_now vH vH_kinds vG vW vW_who vW_cells vH_sorts vH_next vW_inFront vH_sizes vH_width vH_doorOne vH_doorTwo x3 x4 x5 = some (zr, z_vW, z_vW_who, z_vW_cells, z_vW_inFront, z_aH0)) (A : Nat → Prop) (hAe : va_A (wX3_fewestForPlace cy aG aH aD qD qH qG qW aH0 aH0 vD vD_now vH vH_kinds vG vW vW_who vW_cells vH_sorts vH_next vW_inFront vH_sizes vH_width vH_doorOne vH_doorTwo) sz = A) : Met l yX3_fewestForPlace wsX3_fewestForPlace ({ frames := 5, cells := 0, slots := 0, locals := 126 } : Room) (kPre D cy [.ref aG, .ref aH, .ref aD, .int x3, .int x4, .int x5] (wX3_fewestForPlace cy aG aH aD qD qH qG qW aH0 aH0 vD vD_now vH vH_kinds vG vW vW_who vW_cells vH_sorts vH_next vW_inFront vH_sizes vH_width vH_doorOne vH_doorTwo) sz) (kQi D cy zr A (wX3_fewestForPlace cy aG aH aD qD qH qG qW aH0 z_aH0 vD vD_now vH vH_kinds vG z_vW z_vW_who z_vW_cells vH_sorts vH_next z_vW_inFront vH_sizes vH_width vH_doorOne vH_doorTwo)) 0 0 A := by
  refine Met.ofW (cc := cX3_fewestForPlace) (maxL := 6) (ret := (some .int)) (by decide) rfl ?_
  intro p e s m args below meth c s₁ B hml hv
  obtain ⟨rfl, hsz, hP, hK, hD0, hN⟩ := hv
  have hx := B.exec
  have hb := B.bytes
  have hr := B.returns
  have ht0 : ∀ w ∈ W0, w.before _ s = true := fun w h => atoms_spec (ws := wsX3_fewestForPlace) B.pre w (List.mem_cons_of_mem _ h)
  have hown : s.vm.findClass RX3 = some m.cls := findClass_of_methodNamed B.named
  have hlocks := B.notSynchronized
  subst hsz
  have hD : va_D A (wX3_fewestForPlace cy aG aH aD qD qH qG qW aH0 aH0 vD vD_now vH vH_kinds vG vW vW_who vW_cells vH_sorts vH_next vW_inFront vH_sizes vH_width vH_doorOne vH_doorTwo) := by rw [← hAe]; exact hD0.self
  have hA : ∀ q : Nat, s.heap.size ≤ q → A q := fun q h => by rw [← hAe]; exact Or.inr h
  have hS : va_S A s.heap s.heap [] := va_S.rf
  have hl := lv_entry ([.ref aG, .ref aH, .ref aD, .int x3, .int x4, .int x5]) (n := 6) (Nat.le_of_ble_eq_true rfl)
  rw [lg_entry_eq]
  generalize (lg_sl ([.ref aG, .ref aH, .ref aD, .int x3, .int x4, .int x5]) ++ List.replicate (6 - (lg_sl ([.ref aG, .ref aH, .ref aD, .int x3, .int x4, .int x5])).length) Slot.unset).toArray = ls at hl ⊢
  have hl : lv_has ls 6 [(0, .ref aG), (1, .ref aH), (2, .ref aD), (3, .int x3), (4, .int x4), (5, .int x5)] := hl
  unfold fX3_fewestForPlace at hok
  obtain ⟨H, hH⟩ : ∃ H, H = s.heap := ⟨_, rfl⟩
  obtain ⟨locs, hlc⟩ : ∃ x : List Loc, x = [] := ⟨_, rfl⟩
  have hP : va_P D vwCl (wX3_fewestForPlace cy aG aH aD qD qH qG qW aH0 aH0 vD vD_now vH vH_kinds vG vW vW_who vW_cells vH_sorts vH_next vW_inFront vH_sizes vH_width vH_doorOne vH_doorTwo) H := by rw [hH]; exact hP
  have hS : va_S A s.heap H locs := by rw [hH, hlc]; exact hS
  rw [show W p l e _ s m _ below meth c s.heap [] = W p l e _ s m _ below meth c H locs from by rw [hH, hlc]]
  refine lv_aload_n hx hb dX3_fewestForPlace_0 rfl (lv_at hl 0 rfl) ?_
  refine lv_aload_n hx hb dX3_fewestForPlace_1 rfl (lv_at hl 1 rfl) ?_
  refine lv_aload_n hx hb dX3_fewestForPlace_2 rfl (lv_at hl 2 rfl) ?_
  refine lv_iload_n hx hb dX3_fewestForPlace_3 rfl (lv_at hl 3 rfl) ?_
  refine lv_iload_n hx hb dX3_fewestForPlace_4 rfl (lv_at hl 3 rfl) ?_
  refine lv_iload hx hb dX3_fewestForPlace_5 (lv_at hl 4 rfl) ?_
  refine lv_iload hx hb dX3_fewestForPlace_7 (lv_at hl 5 rfl) ?_
  obtain ⟨⟨r9, vW_9, vW_who_9, vW_cells_9, vW_inFront_9, aH0_9⟩, hc9, hok⟩ := k_bind hok
  try dsimp only at hok
  refine kCi (wc := (wX3_fewest cy aG aH aD qD qH qG qW aH0 aH0 vD vD_now vH vH_kinds vG vW vW_who vW_cells vH_sorts vH_next vW_inFront vH_sizes vH_width vH_doorOne vH_doorTwo)) (wc2 := (wX3_fewest cy aG aH aD qD qH qG qW aH0 aH0_9 vD vD_now vH vH_kinds vG vW_9 vW_who_9 vW_cells_9 vH_sorts vH_next vW_inFront_9 vH_sizes vH_width vH_doorOne vH_doorTwo)) (wr := []) (ws2 := (wX3_fewestForPlace cy aG aH aD qD qH qG qW aH0 aH0_9 vD vD_now vH vH_kinds vG vW_9 vW_who_9 vW_cells_9 vH_sorts vH_next vW_inFront_9 vH_sizes vH_width vH_doorOne vH_doorTwo)) (kRunV (As := [.ref aH, .ref aD, .int x3, .int x3, .int x4, .int x5]) (rest := []) ⟨hx, hb, hml, hown, ht0⟩ (kX3_fewest l D cy _ aG aH aD qD qH qG qW aH0 vD vD_now vH vH_kinds vG vW vW_who vW_cells vH_sorts vH_next vW_inFront vH_sizes vH_width vH_doorOne vH_doorTwo x3 x3 x4 x5 r9 vW_9 vW_who_9 vW_cells_9 vW_inFront_9 aH0_9 hc9 _ rfl) (cwV 6 ht0 (gV wd195 wd196 wd197 wd178 wd198) rfl rfl rfl (by decide +kernel) ⟨Nat.le_of_ble_eq_true rfl, Nat.le_of_ble_eq_true rfl⟩) hK hN hP hD [0, 1, 2, 3, 4, 5, 6, 7, 8, 9, 10, 11, 12, 13, 14] rfl (by decide) 4 2 rfl rfl rfl hl.1 rfl (Nat.le_of_ble_eq_true rfl) dX3_fewestForPlace_9 ⟨Nat.zero_le _, Nat.zero_le _⟩) hP hD hS hA [0, 1, 2, 3, 4, 5, 6, 7, 8, 9, 10, 11, 12, 13, 14] [] rfl rfl (by decide) (by decide) [0, 1, 2, 3, 4, 5, 6, 7, 8, 9, 10, 11, 12, 13, 14] (by decide) rfl rfl (fun H locs hP hD hS => ?_)
  cases hok
  exact W.iret hx hb hr (fun t ht hW => ⟨⟨_, (), rfl, rfl, by rw [ht]; exact hP, va_K.moved hW.alike hK, hD⟩, hS.F ht⟩) hS.2.2 dX3_fewestForPlace_12
def wsX3_fewestToMeet : List Cond := .code yX3_fewestToMeet cX3_fewestToMeet 6 (some .int) :: W0
abbrev wX3_fewestToMeet (cy : Nat → ClassId) (aG : Nat) (aH : Nat) (aD : Nat) (qD : Nat → Nat) (qH : Nat → Nat) (qG : Nat → Nat) (qW : Nat → Nat) (aH0 : Nat) (fvW_4 : Nat) (vD : Nat → Int32) (vD_now : Nat → Int32) (vH : Nat → Int32) (vH_kinds : Nat → Int32) (vG : Nat → Int32) (vW : Nat → Int32) (vW_who : Nat → Int32) (vW_cells : Nat → Int32) (vH_sorts : Nat → Int32) (vH_next : Nat → Int32) (vW_inFront : Nat → Int32) (vH_sizes : Nat → Int32) (vH_width : Nat → Int32) (vH_doorOne : Nat → Int32) (vH_doorTwo : Nat → Int32) : va_W := [(aD, oX1 vD qD), (qD 0, rI cy 9 vD_now), (aH, oX4 vH qH), (qH 14, rI cy 7 vH_kinds), (aG, oX3 vG qG), (qG 0, oX6 vW qW fvW_4), (qW 1, rI cy 36 vW_who), (qW 0, rI cy 7 vW_cells), (qH 8, rI cy 4 vH_sorts), (qH 10, rI cy 36 vH_next), (qW 2, rI cy 7 vW_inFront), (qH 15, rI cy 7 vH_sizes), (qH 11, rI cy 36 vH_width), (qH 12, rI cy 5 vH_doorOne), (qH 13, rI cy 5 vH_doorTwo)]
set_option maxHeartbeats 4000000 in
set_option maxRecDepth 100000 in
theorem kX3_fewestToMeet (l : Launch) (D : va_G) (cy : Nat → ClassId) (sz : Nat) (aG : Nat) (aH : Nat) (aD : Nat) (qD : Nat → Nat) (qH : Nat → Nat) (qG : Nat → Nat) (qW : Nat → Nat) (aH0 : Nat) (vD : Nat → Int32) (vD_now : Nat → Int32) (vH : Nat → Int32) (vH_kinds : Nat → Int32) (vG : Nat → Int32) (vW : Nat → Int32) (vW_who : Nat → Int32) (vW_cells : Nat → Int32) (vH_sorts : Nat → Int32) (vH_next : Nat → Int32) (vW_inFront : Nat → Int32) (vH_sizes : Nat → Int32) (vH_width : Nat → Int32) (vH_doorOne : Nat → Int32) (vH_doorTwo : Nat → Int32) (x3 : Int32) (x4 : Int32) (x5 : Int32) (zr : Int32) (z_vW : Nat → Int32) (z_vW_who : Nat → Int32) (z_vW_cells : Nat → Int32) (z_vW_inFront : Nat → Int32) (z_aH0 : Nat) (hok : fX3_fewestToMeet aH aH0 vD vD_now vH vH_kinds vG vW vW_who vW_cells vH_sorts vH_next vW_inFront vH_sizes vH_width vH_doorOne vH_doorTwo x3 x4 x5 = some (zr, z_vW, z_vW_who, z_vW_cells, z_vW_inFront, z_aH0)) (A : Nat → Prop) (hAe : va_A (wX3_fewestToMeet cy aG aH aD qD qH qG qW aH0 aH0 vD vD_now vH vH_kinds vG vW vW_who vW_cells vH_sorts vH_next vW_inFront vH_sizes vH_width vH_doorOne vH_doorTwo) sz = A) : Met l yX3_fewestToMeet wsX3_fewestToMeet ({ frames := 5, cells := 0, slots := 0, locals := 126 } : Room) (kPre D cy [.ref aG, .ref aH, .ref aD, .int x3, .int x4, .int x5] (wX3_fewestToMeet cy aG aH aD qD qH qG qW aH0 aH0 vD vD_now vH vH_kinds vG vW vW_who vW_cells vH_sorts vH_next vW_inFront vH_sizes vH_width vH_doorOne vH_doorTwo) sz) (kQi D cy zr A (wX3_fewestToMeet cy aG aH aD qD qH qG qW aH0 z_aH0 vD vD_now vH vH_kinds vG z_vW z_vW_who z_vW_cells vH_sorts vH_next z_vW_inFront vH_sizes vH_width vH_doorOne vH_doorTwo)) 0 0 A := by
  refine Met.ofW (cc := cX3_fewestToMeet) (maxL := 6) (ret := (some .int)) (by decide) rfl ?_
  intro p e s m args below meth c s₁ B hml hv
  obtain ⟨rfl, hsz, hP, hK, hD0, hN⟩ := hv
  have hx := B.exec
  have hb := B.bytes
  have hr := B.returns
  have ht0 : ∀ w ∈ W0, w.before _ s = true := fun w h => atoms_spec (ws := wsX3_fewestToMeet) B.pre w (List.mem_cons_of_mem _ h)
  have hown : s.vm.findClass RX3 = some m.cls := findClass_of_methodNamed B.named
  have hlocks := B.notSynchronized
  subst hsz
  have hD : va_D A (wX3_fewestToMeet cy aG aH aD qD qH qG qW aH0 aH0 vD vD_now vH vH_kinds vG vW vW_who vW_cells vH_sorts vH_next vW_inFront vH_sizes vH_width vH_doorOne vH_doorTwo) := by rw [← hAe]; exact hD0.self
  have hA : ∀ q : Nat, s.heap.size ≤ q → A q := fun q h => by rw [← hAe]; exact Or.inr h
  have hS : va_S A s.heap s.heap [] := va_S.rf
  have hl := lv_entry ([.ref aG, .ref aH, .ref aD, .int x3, .int x4, .int x5]) (n := 6) (Nat.le_of_ble_eq_true rfl)
  rw [lg_entry_eq]
  generalize (lg_sl ([.ref aG, .ref aH, .ref aD, .int x3, .int x4, .int x5]) ++ List.replicate (6 - (lg_sl ([.ref aG, .ref aH, .ref aD, .int x3, .int x4, .int x5])).length) Slot.unset).toArray = ls at hl ⊢
  have hl : lv_has ls 6 [(0, .ref aG), (1, .ref aH), (2, .ref aD), (3, .int x3), (4, .int x4), (5, .int x5)] := hl
  unfold fX3_fewestToMeet at hok
  obtain ⟨H, hH⟩ : ∃ H, H = s.heap := ⟨_, rfl⟩
  obtain ⟨locs, hlc⟩ : ∃ x : List Loc, x = [] := ⟨_, rfl⟩
  have hP : va_P D vwCl (wX3_fewestToMeet cy aG aH aD qD qH qG qW aH0 aH0 vD vD_now vH vH_kinds vG vW vW_who vW_cells vH_sorts vH_next vW_inFront vH_sizes vH_width vH_doorOne vH_doorTwo) H := by rw [hH]; exact hP
  have hS : va_S A s.heap H locs := by rw [hH, hlc]; exact hS
  rw [show W p l e _ s m _ below meth c s.heap [] = W p l e _ s m _ below meth c H locs from by rw [hH, hlc]]
  refine lv_aload_n hx hb dX3_fewestToMeet_0 rfl (lv_at hl 0 rfl) ?_
  refine lv_aload_n hx hb dX3_fewestToMeet_1 rfl (lv_at hl 1 rfl) ?_
  refine lv_aload_n hx hb dX3_fewestToMeet_2 rfl (lv_at hl 2 rfl) ?_
  refine lv_iload_n hx hb dX3_fewestToMeet_3 rfl (lv_at hl 3 rfl) ?_
  refine lv_iload hx hb dX3_fewestToMeet_4 (lv_at hl 4 rfl) ?_
  refine lv_iconst (v := -1) hx hb dX3_fewestToMeet_6 (by decide) ?_
  refine lv_iload hx hb dX3_fewestToMeet_7 (lv_at hl 5 rfl) ?_
  obtain ⟨⟨r9, vW_9, vW_who_9, vW_cells_9, vW_inFront_9, aH0_9⟩, hc9, hok⟩ := k_bind hok
  try dsimp only at hok
  refine kCi (wc := (wX3_fewest cy aG aH aD qD qH qG qW aH0 aH0 vD vD_now vH vH_kinds vG vW vW_who vW_cells vH_sorts vH_next vW_inFront vH_sizes vH_width vH_doorOne vH_doorTwo)) (wc2 := (wX3_fewest cy aG aH aD qD qH qG qW aH0 aH0_9 vD vD_now vH vH_kinds vG vW_9 vW_who_9 vW_cells_9 vH_sorts vH_next vW_inFront_9 vH_sizes vH_width vH_doorOne vH_doorTwo)) (wr := []) (ws2 := (wX3_fewestToMeet cy aG aH aD qD qH qG qW aH0 aH0_9 vD vD_now vH vH_kinds vG vW_9 vW_who_9 vW_cells_9 vH_sorts vH_next vW_inFront_9 vH_sizes vH_width vH_doorOne vH_doorTwo)) (kRunV (As := [.ref aH, .ref aD, .int x3, .int x4, .int (-1), .int x5]) (rest := []) ⟨hx, hb, hml, hown, ht0⟩ (kX3_fewest l D cy _ aG aH aD qD qH qG qW aH0 vD vD_now vH vH_kinds vG vW vW_who vW_cells vH_sorts vH_next vW_inFront vH_sizes vH_width vH_doorOne vH_doorTwo x3 x4 (-1 : Int32) x5 r9 vW_9 vW_who_9 vW_cells_9 vW_inFront_9 aH0_9 hc9 _ rfl) (cwV 6 ht0 (gV wd195 wd196 wd197 wd178 wd198) rfl rfl rfl (by decide +kernel) ⟨Nat.le_of_ble_eq_true rfl, Nat.le_of_ble_eq_true rfl⟩) hK hN hP hD [0, 1, 2, 3, 4, 5, 6, 7, 8, 9, 10, 11, 12, 13, 14] rfl (by decide) 4 2 rfl rfl rfl hl.1 rfl (Nat.le_of_ble_eq_true rfl) dX3_fewestToMeet_9 ⟨Nat.zero_le _, Nat.zero_le _⟩) hP hD hS hA [0, 1, 2, 3, 4, 5, 6, 7, 8, 9, 10, 11, 12, 13, 14] [] rfl rfl (by decide) (by decide) [0, 1, 2, 3, 4, 5, 6, 7, 8, 9, 10, 11, 12, 13, 14] (by decide) rfl rfl (fun H locs hP hD hS => ?_)
  cases hok
  exact W.iret hx hb hr (fun t ht hW => ⟨⟨_, (), rfl, rfl, by rw [ht]; exact hP, va_K.moved hW.alike hK, hD⟩, hS.F ht⟩) hS.2.2 dX3_fewestToMeet_12
def wsX7_withinReach : List Cond := .code yX7_withinReach cX7_withinReach 6 (some .int) :: W0
abbrev wX7_withinReach (cy : Nat → ClassId) (aU : Nat) (aD : Nat) (qU : Nat → Nat) (qD : Nat → Nat) (vU : Nat → Int32) (vU_nights : Nat → Int32) (vD : Nat → Int32) (vD_now : Nat → Int32) (vU_things : Nat → Int32) (vU_cells : Nat → Int32) : va_W := [(aU, oX7 vU qU), (qU 3, rI cy 6 vU_nights), (aD, oX1 vD qD), (qD 0, rI cy 9 vD_now), (qU 1, rI cy 6 vU_things), (qU 2, rI cy 6 vU_cells)]
set_option maxHeartbeats 4000000 in
set_option maxRecDepth 100000 in
theorem kX7_withinReach (l : Launch) (D : va_G) (cy : Nat → ClassId) (sz : Nat) (aU : Nat) (aD : Nat) (qU : Nat → Nat) (qD : Nat → Nat) (vU : Nat → Int32) (vU_nights : Nat → Int32) (vD : Nat → Int32) (vD_now : Nat → Int32) (vU_things : Nat → Int32) (vU_cells : Nat → Int32) (x2 : Int32) (zr : Int32) (hok : fX7_withinReach vU vU_nights vD vD_now vU_things vU_cells x2 = some zr) (A : Nat → Prop) (hAe : va_A (wX7_withinReach cy aU aD qU qD vU vU_nights vD vD_now vU_things vU_cells) sz = A) : Met l yX7_withinReach wsX7_withinReach ({ frames := 1, cells := 0, slots := 0, locals := 21 } : Room) (kPre D cy [.ref aU, .ref aD, .int x2] (wX7_withinReach cy aU aD qU qD vU vU_nights vD vD_now vU_things vU_cells) sz) (kQi D cy zr A (wX7_withinReach cy aU aD qU qD vU vU_nights vD vD_now vU_things vU_cells)) 0 0 A := by
  refine Met.ofW (cc := cX7_withinReach) (maxL := 6) (ret := (some .int)) (by decide) rfl ?_
  intro p e s m args below meth c s₁ B hml hv
  obtain ⟨rfl, hsz, hP, hK, hD0, hN⟩ := hv
  have hx := B.exec
  have hb := B.bytes
  have hr := B.returns
  have ht0 : ∀ w ∈ W0, w.before _ s = true := fun w h => atoms_spec (ws := wsX7_withinReach) B.pre w (List.mem_cons_of_mem _ h)
  have hown : s.vm.findClass RX7 = some m.cls := findClass_of_methodNamed B.named
  have hlocks := B.notSynchronized
  subst hsz
  have hD : va_D A (wX7_withinReach cy aU aD qU qD vU vU_nights vD vD_now vU_things vU_cells) := by rw [← hAe]; exact hD0.self
  have hA : ∀ q : Nat, s.heap.size ≤ q → A q := fun q h => by rw [← hAe]; exact Or.inr h
  have hS : va_S A s.heap s.heap [] := va_S.rf
  have hl := lv_entry ([.ref aU, .ref aD, .int x2]) (n := 6) (Nat.le_of_ble_eq_true rfl)
  rw [lg_entry_eq]
  generalize (lg_sl ([.ref aU, .ref aD, .int x2]) ++ List.replicate (6 - (lg_sl ([.ref aU, .ref aD, .int x2])).length) Slot.unset).toArray = ls at hl ⊢
  have hl : lv_has ls 6 [(0, .ref aU), (1, .ref aD), (2, .int x2)] := hl
  generalize hQe : MQ below (kQi D cy zr A (wX7_withinReach cy aU aD qU qD vU vU_nights vD vD_now vU_things vU_cells)) ([.ref aU, .ref aD, .int x2] : List Value).toArray s 0 0 A = Q
  have J103 : ∀ (y3_103 : Int32), ∀ (H : Heap) (locs : List Loc) (ls : Array Slot), va_P D vwCl (wX7_withinReach cy aU aD qU qD vU vU_nights vD vD_now vU_things vU_cells) H → va_D A (wX7_withinReach cy aU aD qU qD vU vU_nights vD vD_now vU_things vU_cells) → va_S A s.heap H locs → lv_has ls 6 [(3, .int y3_103)] → fX7_withinReach_J103 y3_103 = some zr → W p l e ({ frames := 1, cells := 0, slots := 0, locals := 21 } : Room) s m ([.ref aU, .ref aD, .int x2] : List Value).toArray below meth c H locs 0 0 Q (F0 m 103 ls []) := by
    intro y3_103 H locs ls hP hD hS hl hok
    unfold fX7_withinReach_J103 at hok
    refine lv_iload_n hx hb dX7_withinReach_103 rfl (lv_at hl 0 rfl) ?_
    cases hok
    subst hQe; exact W.iret hx hb hr (fun t ht hW => ⟨⟨_, (), rfl, rfl, by rw [ht]; exact hP, va_K.moved hW.alike hK, hD⟩, hS.F ht⟩) hS.2.2 dX7_withinReach_104
  have L5 : ∀ (fuel : Nat) (y3_5 : Int32) (y4_5 : Int32), ∀ (H : Heap) (locs : List Loc) (ls : Array Slot), va_P D vwCl (wX7_withinReach cy aU aD qU qD vU vU_nights vD vD_now vU_things vU_cells) H → va_D A (wX7_withinReach cy aU aD qU qD vU vU_nights vD vD_now vU_things vU_cells) → va_S A s.heap H locs → lv_has ls 6 [(0, .ref aU), (1, .ref aD), (2, .int x2), (3, .int y3_5), (4, .int y4_5)] → lp (fX7_withinReach_B5 vU vU_nights vD vD_now vU_things vU_cells x2) fuel (y3_5, y4_5) = some zr → W p l e ({ frames := 1, cells := 0, slots := 0, locals := 21 } : Room) s m ([.ref aU, .ref aD, .int x2] : List Value).toArray below meth c H locs 0 0 Q (F0 m 5 ls []) := by
    intro fuel
    induction fuel with
    | zero => intro y3_5 y4_5 H locs ls hP hD hS hl hok; exact (lp_0 hok).elim
    | succ fuel ih5 =>
      intro y3_5 y4_5 H locs ls hP hD hS hl hok
      obtain ⟨y5, hok, hL5, hR5⟩ := lp_step hok
      have J97 : ∀ (y3_97 : Int32), ∀ (H : Heap) (locs : List Loc) (ls : Array Slot), va_P D vwCl (wX7_withinReach cy aU aD qU qD vU vU_nights vD vD_now vU_things vU_cells) H → va_D A (wX7_withinReach cy aU aD qU qD vU vU_nights vD vD_now vU_things vU_cells) → va_S A s.heap H locs → lv_has ls 6 [(0, .ref aU), (1, .ref aD), (2, .int x2), (3, .int y3_97), (4, .int y4_5)] → fX7_withinReach_J97 y4_5 y3_97 = some y5 → W p l e ({ frames := 1, cells := 0, slots := 0, locals := 21 } : Room) s m ([.ref aU, .ref aD, .int x2] : List Value).toArray below meth c H locs 0 0 Q (F0 m 97 ls []) := by
        intro y3_97 H locs ls hP hD hS hl hok
        unfold fX7_withinReach_J97 at hok
        refine lv_iinc (v := (y4_5 + 1)) (lv' := [(4, .int (y4_5 + 1)), (0, .ref aU), (1, .ref aD), (2, .int x2), (3, .int y3_97)]) hx hb dX7_withinReach_97 hl (k := 4) rfl (by first | rfl | decide) (by decide) rfl (fun ls hl => ?_)
        refine lv_goto (tgt := 5) hx hb dX7_withinReach_100 (by decide) ?_
        exact ih5 y3_97 (y4_5 + 1) H locs ls hP hD hS (lv_sub hl [1, 2, 3, 4, 0] rfl) (hR5 _ (Option.some.inj hok).symm)
      have J56 : ∀ (t0_56 : Int32), ∀ (H : Heap) (locs : List Loc) (ls : Array Slot), va_P D vwCl (wX7_withinReach cy aU aD qU qD vU vU_nights vD vD_now vU_things vU_cells) H → va_D A (wX7_withinReach cy aU aD qU qD vU vU_nights vD vD_now vU_things vU_cells) → va_S A s.heap H locs → lv_has ls 6 [(0, .ref aU), (1, .ref aD), (2, .int x2), (3, .int y3_5), (4, .int y4_5)] → fX7_withinReach_J56 vD vD_now vU_things vU_cells y3_5 y4_5 t0_56 = some y5 → W p l e ({ frames := 1, cells := 0, slots := 0, locals := 21 } : Room) s m ([.ref aU, .ref aD, .int x2] : List Value).toArray below meth c H locs 0 0 Q (F0 m 56 ls [.int t0_56]) := by
        intro t0_56 H locs ls hP hD hS hl hok
        unfold fX7_withinReach_J56 at hok
        refine lv_istore (lv' := [(5, .int t0_56), (0, .ref aU), (1, .ref aD), (2, .int x2), (3, .int y3_5), (4, .int y4_5)]) hx hb dX7_withinReach_56 hl (by decide) rfl (fun ls hl => ?_)
        refine lv_iload hx hb dX7_withinReach_58 (lv_at hl 0 rfl) ?_
        refine lv_if_eq (tgt := 97) hx hb dX7_withinReach_60 (by decide) (fun c60 => ?_) (fun c60 => ?_)
        · have hok := k_pos c60 hok
          exact J97 y3_5 H locs ls hP hD hS (lv_sub hl [1, 2, 3, 4, 5] rfl) hok
        · have hok := k_neg c60 hok
          refine lv_aload_n hx hb dX7_withinReach_63 rfl (lv_at hl 2 rfl) ?_
          refine lv_aload_n hx hb dX7_withinReach_64 rfl (lv_at hl 1 rfl) ?_
          refine va_get (D := D) (ci := 6) (v := .ref (qU 1)) (C := RX7) (T := TX7) (N := 5) hx hb ht0 niX7 hown hK hP 0 rfl rfl 1 (by decide) (ht0 _ wd199) (fun _ h9 => h9) rfl dX7_withinReach_65 ?_
          refine lv_iload hx hb dX7_withinReach_68 (lv_at hl 5 rfl) ?_
          obtain ⟨g70, hok⟩ := gd_some hok
          refine va_iald hx hb hK hP 4 0 rfl rfl (okI_in g70) dX7_withinReach_70 ?_
          obtain ⟨r71, hc71, hok⟩ := k_bind hok
          refine kCi (wc := (wX1_cellOf cy aD qD vD vD_now)) (wc2 := (wX1_cellOf cy aD qD vD vD_now)) (wr := [(aU, oX7 vU qU), (qU 3, rI cy 6 vU_nights), (qU 1, rI cy 6 vU_things), (qU 2, rI cy 6 vU_cells)]) (ws2 := (wX7_withinReach cy aU aD qU qD vU vU_nights vD vD_now vU_things vU_cells)) (kRunV (As := [.int (vU_things y4_5.toNatClampNeg)]) (rest := []) ⟨hx, hb, hml, hown, ht0⟩ (kX1_cellOf l D cy _ aD qD vD vD_now (vU_things y4_5.toNatClampNeg) r71 hc71 _ rfl) (cwV 1 ht0 (gV wd200 wd82 wd83 wd74 wd84) rfl rfl rfl (by decide +kernel) ⟨Nat.le_of_ble_eq_true rfl, Nat.le_of_ble_eq_true rfl⟩) hK hN hP hD [2, 3] rfl (by decide) 2 1 rfl rfl rfl hl.1 rfl (Nat.le_of_ble_eq_true rfl) dX7_withinReach_71 ⟨Nat.zero_le _, Nat.zero_le _⟩) hP hD hS hA [2, 3] [0, 1, 4, 5] rfl rfl (by decide) (by decide) [0, 1, 4, 5, 2, 3] (by decide) rfl rfl (fun H locs hP hD hS => ?_)
          obtain ⟨r74, hc74, hok⟩ := k_bind hok
          refine kCi (wc := (wX8_ringOfCell cy )) (wc2 := (wX8_ringOfCell cy )) (wr := [(aU, oX7 vU qU), (qU 3, rI cy 6 vU_nights), (aD, oX1 vD qD), (qD 0, rI cy 9 vD_now), (qU 1, rI cy 6 vU_things), (qU 2, rI cy 6 vU_cells)]) (ws2 := (wX7_withinReach cy aU aD qU qD vU vU_nights vD vD_now vU_things vU_cells)) (kRunSN (As := [.int r71]) (rest := []) ⟨hx, hb, hml, hown, ht0⟩ (kX8_ringOfCell l D cy _ r71 r74 hc74 _ rfl) ⟨va_cnB 1 ht0 (gN wd56) rfl rfl rfl (hN _ (List.mem_of_getElem? (i := 7) rfl)) (ht0 _ wd57) (by decide +kernel) ⟨Nat.le_of_ble_eq_true rfl, Nat.le_of_ble_eq_true rfl⟩, ht0 _ wd58, trivial⟩ hK hN hP hD [] rfl (by decide) rfl hl.1 rfl (Nat.le_of_ble_eq_true rfl) dX7_withinReach_74 ⟨Nat.zero_le _, Nat.zero_le _⟩) hP hD hS hA [] [0, 1, 2, 3, 4, 5] rfl rfl (by decide) (by decide) [0, 1, 2, 3, 4, 5] (by decide) rfl rfl (fun H locs hP hD hS => ?_)
          refine lv_aload_n hx hb dX7_withinReach_77 rfl (lv_at hl 1 rfl) ?_
          refine va_get (D := D) (ci := 6) (v := .ref (qU 2)) (C := RX7) (T := TX7) (N := 5) hx hb ht0 niX7 hown hK hP 0 rfl rfl 2 (by decide) (ht0 _ wd201) (fun _ h9 => h9) rfl dX7_withinReach_78 ?_
          refine lv_iload hx hb dX7_withinReach_81 (lv_at hl 5 rfl) ?_
          obtain ⟨g83, hok⟩ := gd_some hok
          refine va_iald hx hb hK hP 5 0 rfl rfl (okI_in g83) dX7_withinReach_83 ?_
          obtain ⟨r84, hc84, hok⟩ := k_bind hok
          refine kCi (wc := (wX8_ringOfCell cy )) (wc2 := (wX8_ringOfCell cy )) (wr := [(aU, oX7 vU qU), (qU 3, rI cy 6 vU_nights), (aD, oX1 vD qD), (qD 0, rI cy 9 vD_now), (qU 1, rI cy 6 vU_things), (qU 2, rI cy 6 vU_cells)]) (ws2 := (wX7_withinReach cy aU aD qU qD vU vU_nights vD vD_now vU_things vU_cells)) (kRunSN (As := [.int (vU_cells y4_5.toNatClampNeg)]) (rest := [.int r74]) ⟨hx, hb, hml, hown, ht0⟩ (kX8_ringOfCell l D cy _ (vU_cells y4_5.toNatClampNeg) r84 hc84 _ rfl) ⟨va_cnB 1 ht0 (gN wd56) rfl rfl rfl (hN _ (List.mem_of_getElem? (i := 7) rfl)) (ht0 _ wd57) (by decide +kernel) ⟨Nat.le_of_ble_eq_true rfl, Nat.le_of_ble_eq_true rfl⟩, ht0 _ wd58, trivial⟩ hK hN hP hD [] rfl (by decide) rfl hl.1 rfl (Nat.le_of_ble_eq_true rfl) dX7_withinReach_84 ⟨Nat.zero_le _, Nat.zero_le _⟩) hP hD hS hA [] [0, 1, 2, 3, 4, 5] rfl rfl (by decide) (by decide) [0, 1, 2, 3, 4, 5] (by decide) rfl rfl (fun H locs hP hD hS => ?_)
          refine lv_icmp_ne (tgt := 97) hx hb dX7_withinReach_87 (by decide) (fun c87 => ?_) (fun c87 => ?_)
          · have hok := k_neg c87 hok
            exact J97 y3_5 H locs ls hP hD hS (lv_sub hl [1, 2, 3, 4, 5] rfl) hok
          · have hok := k_pos c87 hok
            refine lv_iload_n hx hb dX7_withinReach_90 rfl (lv_at hl 4 rfl) ?_
            refine lv_iconst (v := 1) hx hb dX7_withinReach_91 (by decide) ?_
            refine lv_iload hx hb dX7_withinReach_92 (lv_at hl 5 rfl) ?_
            refine lv_ishl hx hb dX7_withinReach_94 ?_
            refine lv_ior hx hb dX7_withinReach_95 ?_
            refine lv_istore_n (lv' := [(3, .int (y3_5 ||| (isl (1 : Int32) y4_5))), (5, .int t0_56), (0, .ref aU), (1, .ref aD), (2, .int x2), (4, .int y4_5)]) hx hb dX7_withinReach_96 rfl hl (by decide) rfl (fun ls hl => ?_)
            exact J97 (y3_5 ||| (isl (1 : Int32) y4_5)) H locs ls hP hD hS (lv_sub hl [2, 3, 4, 0, 5] rfl) hok
      have J55 : ∀ (H : Heap) (locs : List Loc) (ls : Array Slot), va_P D vwCl (wX7_withinReach cy aU aD qU qD vU vU_nights vD vD_now vU_things vU_cells) H → va_D A (wX7_withinReach cy aU aD qU qD vU vU_nights vD vD_now vU_things vU_cells) → va_S A s.heap H locs → lv_has ls 6 [(0, .ref aU), (1, .ref aD), (2, .int x2), (3, .int y3_5), (4, .int y4_5)] → fX7_withinReach_J55 vD vD_now vU_things vU_cells y3_5 y4_5 = some y5 → W p l e ({ frames := 1, cells := 0, slots := 0, locals := 21 } : Room) s m ([.ref aU, .ref aD, .int x2] : List Value).toArray below meth c H locs 0 0 Q (F0 m 55 ls []) := by
        intro  H locs ls hP hD hS hl hok
        unfold fX7_withinReach_J55 at hok
        refine lv_iconst (v := 0) hx hb dX7_withinReach_55 (by decide) ?_
        exact J56 (0 : Int32) H locs ls hP hD hS (lv_sub hl [0, 1, 2, 3, 4] rfl) hok
      unfold fX7_withinReach_B5 at hok
      try dsimp only at hok
      refine lv_iload hx hb dX7_withinReach_5 (lv_at hl 4 rfl) ?_
      refine lv_aload_n hx hb dX7_withinReach_7 rfl (lv_at hl 0 rfl) ?_
      refine va_get (D := D) (ci := 6) (v := .int (vU 0)) (C := RX7) (T := TX7) (N := 5) hx hb ht0 niX7 hown hK hP 0 rfl rfl 0 (by decide) (ht0 _ wd202) (fun _ h9 => h9) rfl dX7_withinReach_8 ?_
      refine lv_icmp_ge (tgt := 103) hx hb dX7_withinReach_11 (by decide) (fun c11 => ?_) (fun c11 => ?_)
      · have hok := k_pos c11 hok
        obtain ⟨e5, hok, he5⟩ := ex_some hok
        have hok := hok.trans (congrArg some (hL5 _ he5))
        exact J103 y3_5 H locs ls hP hD hS (lv_sub hl [3] rfl) hok
      · have hok := k_neg c11 hok
        refine lv_iload hx hb dX7_withinReach_14 (lv_at hl 4 rfl) ?_
        refine lv_bipush (v := 6) hx hb dX7_withinReach_16 (by decide) ?_
        refine lv_icmp_ge (tgt := 103) hx hb dX7_withinReach_18 (by decide) (fun c18 => ?_) (fun c18 => ?_)
        · have hok := k_pos c18 hok
          obtain ⟨e5, hok, he5⟩ := ex_some hok
          have hok := hok.trans (congrArg some (hL5 _ he5))
          exact J103 y3_5 H locs ls hP hD hS (lv_sub hl [3] rfl) hok
        · have hok := k_neg c18 hok
          refine lv_aload_n hx hb dX7_withinReach_21 rfl (lv_at hl 0 rfl) ?_
          refine va_get (D := D) (ci := 6) (v := .ref (qU 3)) (C := RX7) (T := TX7) (N := 5) hx hb ht0 niX7 hown hK hP 0 rfl rfl 3 (by decide) (ht0 _ wd203) (fun _ h9 => h9) rfl dX7_withinReach_22 ?_
          refine lv_iload hx hb dX7_withinReach_25 (lv_at hl 4 rfl) ?_
          obtain ⟨g27, hok⟩ := gd_some hok
          refine va_iald hx hb hK hP 1 0 rfl rfl (okI_in g27) dX7_withinReach_27 ?_
          refine lv_aload_n hx hb dX7_withinReach_28 rfl (lv_at hl 1 rfl) ?_
          obtain ⟨r29, hc29, hok⟩ := k_bind hok
          refine kCi (wc := (wX1_nightNow cy aD qD vD vD_now)) (wc2 := (wX1_nightNow cy aD qD vD vD_now)) (wr := [(aU, oX7 vU qU), (qU 3, rI cy 6 vU_nights), (qU 1, rI cy 6 vU_things), (qU 2, rI cy 6 vU_cells)]) (ws2 := (wX7_withinReach cy aU aD qU qD vU vU_nights vD vD_now vU_things vU_cells)) (kRunV (As := []) (rest := [.int (vU_nights y4_5.toNatClampNeg)]) ⟨hx, hb, hml, hown, ht0⟩ (kX1_nightNow l D cy _ aD qD vD vD_now r29 hc29 _ rfl) (cwV 0 ht0 (gV wd204 wd117 wd118 wd74 wd119) rfl rfl rfl (by decide +kernel) ⟨Nat.le_of_ble_eq_true rfl, Nat.le_of_ble_eq_true rfl⟩) hK hN hP hD [2, 3] rfl (by decide) 2 1 rfl rfl rfl hl.1 rfl (Nat.le_of_ble_eq_true rfl) dX7_withinReach_29 ⟨Nat.zero_le _, Nat.zero_le _⟩) hP hD hS hA [2, 3] [0, 1, 4, 5] rfl rfl (by decide) (by decide) [0, 1, 4, 5, 2, 3] (by decide) rfl rfl (fun H locs hP hD hS => ?_)
          refine lv_icmp_le (tgt := 55) hx hb dX7_withinReach_32 (by decide) (fun c32 => ?_) (fun c32 => ?_)
          · have hok := k_pos c32 hok
            exact J55  H locs ls hP hD hS (lv_sub hl [0, 1, 2, 3, 4] rfl) hok
          · have hok := k_neg c32 hok
            refine lv_aload_n hx hb dX7_withinReach_35 rfl (lv_at hl 0 rfl) ?_
            refine va_get (D := D) (ci := 6) (v := .ref (qU 3)) (C := RX7) (T := TX7) (N := 5) hx hb ht0 niX7 hown hK hP 0 rfl rfl 3 (by decide) (ht0 _ wd203) (fun _ h9 => h9) rfl dX7_withinReach_36 ?_
            refine lv_iload hx hb dX7_withinReach_39 (lv_at hl 4 rfl) ?_
            obtain ⟨g41, hok⟩ := gd_some hok
            refine va_iald hx hb hK hP 1 0 rfl rfl (okI_in g41) dX7_withinReach_41 ?_
            refine lv_aload_n hx hb dX7_withinReach_42 rfl (lv_at hl 1 rfl) ?_
            obtain ⟨r43, hc43, hok⟩ := k_bind hok
            refine kCi (wc := (wX1_nightNow cy aD qD vD vD_now)) (wc2 := (wX1_nightNow cy aD qD vD vD_now)) (wr := [(aU, oX7 vU qU), (qU 3, rI cy 6 vU_nights), (qU 1, rI cy 6 vU_things), (qU 2, rI cy 6 vU_cells)]) (ws2 := (wX7_withinReach cy aU aD qU qD vU vU_nights vD vD_now vU_things vU_cells)) (kRunV (As := []) (rest := [.int (vU_nights y4_5.toNatClampNeg)]) ⟨hx, hb, hml, hown, ht0⟩ (kX1_nightNow l D cy _ aD qD vD vD_now r43 hc43 _ rfl) (cwV 0 ht0 (gV wd204 wd117 wd118 wd74 wd119) rfl rfl rfl (by decide +kernel) ⟨Nat.le_of_ble_eq_true rfl, Nat.le_of_ble_eq_true rfl⟩) hK hN hP hD [2, 3] rfl (by decide) 2 1 rfl rfl rfl hl.1 rfl (Nat.le_of_ble_eq_true rfl) dX7_withinReach_43 ⟨Nat.zero_le _, Nat.zero_le _⟩) hP hD hS hA [2, 3] [0, 1, 4, 5] rfl rfl (by decide) (by decide) [0, 1, 4, 5, 2, 3] (by decide) rfl rfl (fun H locs hP hD hS => ?_)
            refine lv_iload_n hx hb dX7_withinReach_46 rfl (lv_at hl 2 rfl) ?_
            refine lv_iadd hx hb dX7_withinReach_47 ?_
            refine lv_icmp_gt (tgt := 55) hx hb dX7_withinReach_48 (by decide) (fun c48 => ?_) (fun c48 => ?_)
            · have hok := k_pos c48 hok
              exact J55  H locs ls hP hD hS (lv_sub hl [0, 1, 2, 3, 4] rfl) hok
            · have hok := k_neg c48 hok
              refine lv_iconst (v := 1) hx hb dX7_withinReach_51 (by decide) ?_
              refine lv_goto (tgt := 56) hx hb dX7_withinReach_52 (by decide) ?_
              exact J56 (1 : Int32) H locs ls hP hD hS (lv_sub hl [0, 1, 2, 3, 4] rfl) hok
  unfold fX7_withinReach at hok
  obtain ⟨H, hH⟩ : ∃ H, H = s.heap := ⟨_, rfl⟩
  obtain ⟨locs, hlc⟩ : ∃ x : List Loc, x = [] := ⟨_, rfl⟩
  have hP : va_P D vwCl (wX7_withinReach cy aU aD qU qD vU vU_nights vD vD_now vU_things vU_cells) H := by rw [hH]; exact hP
  have hS : va_S A s.heap H locs := by rw [hH, hlc]; exact hS
  rw [show W p l e _ s m _ below meth c s.heap [] = W p l e _ s m _ below meth c H locs from by rw [hH, hlc]]
  refine lv_iconst (v := 0) hx hb dX7_withinReach_0 (by decide) ?_
  refine lv_istore_n (lv' := [(3, .int 0), (0, .ref aU), (1, .ref aD), (2, .int x2)]) hx hb dX7_withinReach_1 rfl hl (by decide) rfl (fun ls hl => ?_)
  refine lv_iconst (v := 0) hx hb dX7_withinReach_2 (by decide) ?_
  refine lv_istore (lv' := [(4, .int 0), (3, .int 0), (0, .ref aU), (1, .ref aD), (2, .int x2)]) hx hb dX7_withinReach_3 hl (by decide) rfl (fun ls hl => ?_)
  exact L5 5000 (0 : Int32) (0 : Int32) H locs ls hP hD hS (lv_sub hl [2, 3, 4, 1, 0] rfl) hok
def wsX7_ofRing : List Cond := .code yX7_ofRing cX7_ofRing 5 (some .int) :: W0
abbrev wX7_ofRing (cy : Nat → ClassId) (aU : Nat) (qU : Nat → Nat) (vU : Nat → Int32) (vU_cells : Nat → Int32) : va_W := [(aU, oX7 vU qU), (qU 2, rI cy 6 vU_cells)]
set_option maxHeartbeats 4000000 in
set_option maxRecDepth 100000 in
theorem kX7_ofRing (l : Launch) (D : va_G) (cy : Nat → ClassId) (sz : Nat) (aU : Nat) (qU : Nat → Nat) (vU : Nat → Int32) (vU_cells : Nat → Int32) (x1 : Int32) (x2 : Int32) (zr : Int32) (hok : fX7_ofRing vU vU_cells x1 x2 = some zr) (A : Nat → Prop) (hAe : va_A (wX7_ofRing cy aU qU vU vU_cells) sz = A) : Met l yX7_ofRing wsX7_ofRing ({ frames := 1, cells := 0, slots := 0, locals := 20 } : Room) (kPre D cy [.ref aU, .int x1, .int x2] (wX7_ofRing cy aU qU vU vU_cells) sz) (kQi D cy zr A (wX7_ofRing cy aU qU vU vU_cells)) 0 0 A := by
  refine Met.ofW (cc := cX7_ofRing) (maxL := 5) (ret := (some .int)) (by decide) rfl ?_
  intro p e s m args below meth c s₁ B hml hv
  obtain ⟨rfl, hsz, hP, hK, hD0, hN⟩ := hv
  have hx := B.exec
  have hb := B.bytes
  have hr := B.returns
  have ht0 : ∀ w ∈ W0, w.before _ s = true := fun w h => atoms_spec (ws := wsX7_ofRing) B.pre w (List.mem_cons_of_mem _ h)
  have hown : s.vm.findClass RX7 = some m.cls := findClass_of_methodNamed B.named
  have hlocks := B.notSynchronized
  subst hsz
  have hD : va_D A (wX7_ofRing cy aU qU vU vU_cells) := by rw [← hAe]; exact hD0.self
  have hA : ∀ q : Nat, s.heap.size ≤ q → A q := fun q h => by rw [← hAe]; exact Or.inr h
  have hS : va_S A s.heap s.heap [] := va_S.rf
  have hl := lv_entry ([.ref aU, .int x1, .int x2]) (n := 5) (Nat.le_of_ble_eq_true rfl)
  rw [lg_entry_eq]
  generalize (lg_sl ([.ref aU, .int x1, .int x2]) ++ List.replicate (5 - (lg_sl ([.ref aU, .int x1, .int x2])).length) Slot.unset).toArray = ls at hl ⊢
  have hl : lv_has ls 5 [(0, .ref aU), (1, .int x1), (2, .int x2)] := hl
  generalize hQe : MQ below (kQi D cy zr A (wX7_ofRing cy aU qU vU vU_cells)) ([.ref aU, .int x1, .int x2] : List Value).toArray s 0 0 A = Q
  have J57 : ∀ (y3_57 : Int32), ∀ (H : Heap) (locs : List Loc) (ls : Array Slot), va_P D vwCl (wX7_ofRing cy aU qU vU vU_cells) H → va_D A (wX7_ofRing cy aU qU vU vU_cells) → va_S A s.heap H locs → lv_has ls 5 [(3, .int y3_57)] → fX7_ofRing_J57 y3_57 = some zr → W p l e ({ frames := 1, cells := 0, slots := 0, locals := 20 } : Room) s m ([.ref aU, .int x1, .int x2] : List Value).toArray below meth c H locs 0 0 Q (F0 m 57 ls []) := by
    intro y3_57 H locs ls hP hD hS hl hok
    unfold fX7_ofRing_J57 at hok
    refine lv_iload_n hx hb dX7_ofRing_57 rfl (lv_at hl 0 rfl) ?_
    cases hok
    subst hQe; exact W.iret hx hb hr (fun t ht hW => ⟨⟨_, (), rfl, rfl, by rw [ht]; exact hP, va_K.moved hW.alike hK, hD⟩, hS.F ht⟩) hS.2.2 dX7_ofRing_58
  have L5 : ∀ (fuel : Nat) (y3_5 : Int32) (y4_5 : Int32), ∀ (H : Heap) (locs : List Loc) (ls : Array Slot), va_P D vwCl (wX7_ofRing cy aU qU vU vU_cells) H → va_D A (wX7_ofRing cy aU qU vU vU_cells) → va_S A s.heap H locs → lv_has ls 5 [(0, .ref aU), (1, .int x1), (2, .int x2), (3, .int y3_5), (4, .int y4_5)] → lp (fX7_ofRing_B5 vU vU_cells x1 x2) fuel (y3_5, y4_5) = some zr → W p l e ({ frames := 1, cells := 0, slots := 0, locals := 20 } : Room) s m ([.ref aU, .int x1, .int x2] : List Value).toArray below meth c H locs 0 0 Q (F0 m 5 ls []) := by
    intro fuel
    induction fuel with
    | zero => intro y3_5 y4_5 H locs ls hP hD hS hl hok; exact (lp_0 hok).elim
    | succ fuel ih5 =>
      intro y3_5 y4_5 H locs ls hP hD hS hl hok
      obtain ⟨y5, hok, hL5, hR5⟩ := lp_step hok
      have J51 : ∀ (y3_51 : Int32), ∀ (H : Heap) (locs : List Loc) (ls : Array Slot), va_P D vwCl (wX7_ofRing cy aU qU vU vU_cells) H → va_D A (wX7_ofRing cy aU qU vU vU_cells) → va_S A s.heap H locs → lv_has ls 5 [(0, .ref aU), (1, .int x1), (2, .int x2), (3, .int y3_51), (4, .int y4_5)] → fX7_ofRing_J51 y4_5 y3_51 = some y5 → W p l e ({ frames := 1, cells := 0, slots := 0, locals := 20 } : Room) s m ([.ref aU, .int x1, .int x2] : List Value).toArray below meth c H locs 0 0 Q (F0 m 51 ls []) := by
        intro y3_51 H locs ls hP hD hS hl hok
        unfold fX7_ofRing_J51 at hok
        refine lv_iinc (v := (y4_5 + 1)) (lv' := [(4, .int (y4_5 + 1)), (0, .ref aU), (1, .int x1), (2, .int x2), (3, .int y3_51)]) hx hb dX7_ofRing_51 hl (k := 4) rfl (by first | rfl | decide) (by decide) rfl (fun ls hl => ?_)
        refine lv_goto (tgt := 5) hx hb dX7_ofRing_54 (by decide) ?_
        exact ih5 y3_51 (y4_5 + 1) H locs ls hP hD hS (lv_sub hl [1, 2, 3, 4, 0] rfl) (hR5 _ (Option.some.inj hok).symm)
      unfold fX7_ofRing_B5 at hok
      try dsimp only at hok
      refine lv_iload hx hb dX7_ofRing_5 (lv_at hl 4 rfl) ?_
      refine lv_aload_n hx hb dX7_ofRing_7 rfl (lv_at hl 0 rfl) ?_
      refine va_get (D := D) (ci := 6) (v := .int (vU 0)) (C := RX7) (T := TX7) (N := 5) hx hb ht0 niX7 hown hK hP 0 rfl rfl 0 (by decide) (ht0 _ wd202) (fun _ h9 => h9) rfl dX7_ofRing_8 ?_
      refine lv_icmp_ge (tgt := 57) hx hb dX7_ofRing_11 (by decide) (fun c11 => ?_) (fun c11 => ?_)
      · have hok := k_pos c11 hok
        obtain ⟨e5, hok, he5⟩ := ex_some hok
        have hok := hok.trans (congrArg some (hL5 _ he5))
        exact J57 y3_5 H locs ls hP hD hS (lv_sub hl [3] rfl) hok
      · have hok := k_neg c11 hok
        refine lv_iload hx hb dX7_ofRing_14 (lv_at hl 4 rfl) ?_
        refine lv_bipush (v := 6) hx hb dX7_ofRing_16 (by decide) ?_
        refine lv_icmp_ge (tgt := 57) hx hb dX7_ofRing_18 (by decide) (fun c18 => ?_) (fun c18 => ?_)
        · have hok := k_pos c18 hok
          obtain ⟨e5, hok, he5⟩ := ex_some hok
          have hok := hok.trans (congrArg some (hL5 _ he5))
          exact J57 y3_5 H locs ls hP hD hS (lv_sub hl [3] rfl) hok
        · have hok := k_neg c18 hok
          refine lv_iload_n hx hb dX7_ofRing_21 rfl (lv_at hl 1 rfl) ?_
          refine lv_iload hx hb dX7_ofRing_22 (lv_at hl 4 rfl) ?_
          refine lv_ishr hx hb dX7_ofRing_24 ?_
          refine lv_iconst (v := 1) hx hb dX7_ofRing_25 (by decide) ?_
          refine lv_iand hx hb dX7_ofRing_26 ?_
          refine lv_if_eq (tgt := 51) hx hb dX7_ofRing_27 (by decide) (fun c27 => ?_) (fun c27 => ?_)
          · have hok := k_pos c27 hok
            exact J51 y3_5 H locs ls hP hD hS (lv_sub hl [0, 1, 2, 3, 4] rfl) hok
          · have hok := k_neg c27 hok
            refine lv_aload_n hx hb dX7_ofRing_30 rfl (lv_at hl 0 rfl) ?_
            refine va_get (D := D) (ci := 6) (v := .ref (qU 2)) (C := RX7) (T := TX7) (N := 5) hx hb ht0 niX7 hown hK hP 0 rfl rfl 2 (by decide) (ht0 _ wd201) (fun _ h9 => h9) rfl dX7_ofRing_31 ?_
            refine lv_iload hx hb dX7_ofRing_34 (lv_at hl 4 rfl) ?_
            obtain ⟨g36, hok⟩ := gd_some hok
            refine va_iald hx hb hK hP 1 0 rfl rfl (okI_in g36) dX7_ofRing_36 ?_
            obtain ⟨r37, hc37, hok⟩ := k_bind hok
            refine kCi (wc := (wX8_ringOfCell cy )) (wc2 := (wX8_ringOfCell cy )) (wr := [(aU, oX7 vU qU), (qU 2, rI cy 6 vU_cells)]) (ws2 := (wX7_ofRing cy aU qU vU vU_cells)) (kRunSN (As := [.int (vU_cells y4_5.toNatClampNeg)]) (rest := []) ⟨hx, hb, hml, hown, ht0⟩ (kX8_ringOfCell l D cy _ (vU_cells y4_5.toNatClampNeg) r37 hc37 _ rfl) ⟨va_cnB 1 ht0 (gN wd56) rfl rfl rfl (hN _ (List.mem_of_getElem? (i := 7) rfl)) (ht0 _ wd57) (by decide +kernel) ⟨Nat.le_of_ble_eq_true rfl, Nat.le_of_ble_eq_true rfl⟩, ht0 _ wd58, trivial⟩ hK hN hP hD [] rfl (by decide) rfl hl.1 rfl (Nat.le_of_ble_eq_true rfl) dX7_ofRing_37 ⟨Nat.zero_le _, Nat.zero_le _⟩) hP hD hS hA [] [0, 1] rfl rfl (by decide) (by decide) [0, 1] (by decide) rfl rfl (fun H locs hP hD hS => ?_)
            refine lv_iload_n hx hb dX7_ofRing_40 rfl (lv_at hl 2 rfl) ?_
            refine lv_icmp_ne (tgt := 51) hx hb dX7_ofRing_41 (by decide) (fun c41 => ?_) (fun c41 => ?_)
            · have hok := k_neg c41 hok
              exact J51 y3_5 H locs ls hP hD hS (lv_sub hl [0, 1, 2, 3, 4] rfl) hok
            · have hok := k_pos c41 hok
              refine lv_iload_n hx hb dX7_ofRing_44 rfl (lv_at hl 3 rfl) ?_
              refine lv_iconst (v := 1) hx hb dX7_ofRing_45 (by decide) ?_
              refine lv_iload hx hb dX7_ofRing_46 (lv_at hl 4 rfl) ?_
              refine lv_ishl hx hb dX7_ofRing_48 ?_
              refine lv_ior hx hb dX7_ofRing_49 ?_
              refine lv_istore_n (lv' := [(3, .int (y3_5 ||| (isl (1 : Int32) y4_5))), (0, .ref aU), (1, .int x1), (2, .int x2), (4, .int y4_5)]) hx hb dX7_ofRing_50 rfl hl (by decide) rfl (fun ls hl => ?_)
              exact J51 (y3_5 ||| (isl (1 : Int32) y4_5)) H locs ls hP hD hS (lv_sub hl [1, 2, 3, 0, 4] rfl) hok
  unfold fX7_ofRing at hok
  obtain ⟨H, hH⟩ : ∃ H, H = s.heap := ⟨_, rfl⟩
  obtain ⟨locs, hlc⟩ : ∃ x : List Loc, x = [] := ⟨_, rfl⟩
  have hP : va_P D vwCl (wX7_ofRing cy aU qU vU vU_cells) H := by rw [hH]; exact hP
  have hS : va_S A s.heap H locs := by rw [hH, hlc]; exact hS
  rw [show W p l e _ s m _ below meth c s.heap [] = W p l e _ s m _ below meth c H locs from by rw [hH, hlc]]
  refine lv_iconst (v := 0) hx hb dX7_ofRing_0 (by decide) ?_
  refine lv_istore_n (lv' := [(3, .int 0), (0, .ref aU), (1, .int x1), (2, .int x2)]) hx hb dX7_ofRing_1 rfl hl (by decide) rfl (fun ls hl => ?_)
  refine lv_iconst (v := 0) hx hb dX7_ofRing_2 (by decide) ?_
  refine lv_istore (lv' := [(4, .int 0), (3, .int 0), (0, .ref aU), (1, .int x1), (2, .int x2)]) hx hb dX7_ofRing_3 hl (by decide) rfl (fun ls hl => ?_)
  exact L5 5000 (0 : Int32) (0 : Int32) H locs ls hP hD hS (lv_sub hl [2, 3, 4, 1, 0] rfl) hok
def wsX7_worthOf : List Cond := .code yX7_worthOf cX7_worthOf 4 (some .int) :: W0
abbrev wX7_worthOf (cy : Nat → ClassId) (aU : Nat) (qU : Nat → Nat) (vU : Nat → Int32) (vU_worths : Nat → Int32) : va_W := [(aU, oX7 vU qU), (qU 4, rI cy 6 vU_worths)]
set_option maxHeartbeats 4000000 in
set_option maxRecDepth 100000 in
theorem kX7_worthOf (l : Launch) (D : va_G) (cy : Nat → ClassId) (sz : Nat) (aU : Nat) (qU : Nat → Nat) (vU : Nat → Int32) (vU_worths : Nat → Int32) (x1 : Int32) (zr : Int32) (hok : fX7_worthOf vU vU_worths x1 = some zr) (A : Nat → Prop) (hAe : va_A (wX7_worthOf cy aU qU vU vU_worths) sz = A) : Met l yX7_worthOf wsX7_worthOf ({ frames := 0, cells := 0, slots := 0, locals := 0 } : Room) (kPre D cy [.ref aU, .int x1] (wX7_worthOf cy aU qU vU vU_worths) sz) (kQi D cy zr A (wX7_worthOf cy aU qU vU vU_worths)) 0 0 A := by
  refine Met.ofW (cc := cX7_worthOf) (maxL := 4) (ret := (some .int)) (by decide) rfl ?_
  intro p e s m args below meth c s₁ B hml hv
  obtain ⟨rfl, hsz, hP, hK, hD0, hN⟩ := hv
  have hx := B.exec
  have hb := B.bytes
  have hr := B.returns
  have ht0 : ∀ w ∈ W0, w.before _ s = true := fun w h => atoms_spec (ws := wsX7_worthOf) B.pre w (List.mem_cons_of_mem _ h)
  have hown : s.vm.findClass RX7 = some m.cls := findClass_of_methodNamed B.named
  have hlocks := B.notSynchronized
  subst hsz
  have hD : va_D A (wX7_worthOf cy aU qU vU vU_worths) := by rw [← hAe]; exact hD0.self
  have hA : ∀ q : Nat, s.heap.size ≤ q → A q := fun q h => by rw [← hAe]; exact Or.inr h
  have hS : va_S A s.heap s.heap [] := va_S.rf
  have hl := lv_entry ([.ref aU, .int x1]) (n := 4) (Nat.le_of_ble_eq_true rfl)
  rw [lg_entry_eq]
  generalize (lg_sl ([.ref aU, .int x1]) ++ List.replicate (4 - (lg_sl ([.ref aU, .int x1])).length) Slot.unset).toArray = ls at hl ⊢
  have hl : lv_has ls 4 [(0, .ref aU), (1, .int x1)] := hl
  generalize hQe : MQ below (kQi D cy zr A (wX7_worthOf cy aU qU vU vU_worths)) ([.ref aU, .int x1] : List Value).toArray s 0 0 A = Q
  have J41 : ∀ (y2_41 : Int32), ∀ (H : Heap) (locs : List Loc) (ls : Array Slot), va_P D vwCl (wX7_worthOf cy aU qU vU vU_worths) H → va_D A (wX7_worthOf cy aU qU vU vU_worths) → va_S A s.heap H locs → lv_has ls 4 [(2, .int y2_41)] → fX7_worthOf_J41 y2_41 = some zr → W p l e ({ frames := 0, cells := 0, slots := 0, locals := 0 } : Room) s m ([.ref aU, .int x1] : List Value).toArray below meth c H locs 0 0 Q (F0 m 41 ls []) := by
    intro y2_41 H locs ls hP hD hS hl hok
    unfold fX7_worthOf_J41 at hok
    refine lv_iload_n hx hb dX7_worthOf_41 rfl (lv_at hl 0 rfl) ?_
    cases hok
    subst hQe; exact W.iret hx hb hr (fun t ht hW => ⟨⟨_, (), rfl, rfl, by rw [ht]; exact hP, va_K.moved hW.alike hK, hD⟩, hS.F ht⟩) hS.2.2 dX7_worthOf_42
  have L4 : ∀ (fuel : Nat) (y2_4 : Int32) (y3_4 : Int32), ∀ (H : Heap) (locs : List Loc) (ls : Array Slot), va_P D vwCl (wX7_worthOf cy aU qU vU vU_worths) H → va_D A (wX7_worthOf cy aU qU vU vU_worths) → va_S A s.heap H locs → lv_has ls 4 [(0, .ref aU), (1, .int x1), (2, .int y2_4), (3, .int y3_4)] → lp (fX7_worthOf_B4 vU vU_worths x1) fuel (y2_4, y3_4) = some zr → W p l e ({ frames := 0, cells := 0, slots := 0, locals := 0 } : Room) s m ([.ref aU, .int x1] : List Value).toArray below meth c H locs 0 0 Q (F0 m 4 ls []) := by
    intro fuel
    induction fuel with
    | zero => intro y2_4 y3_4 H locs ls hP hD hS hl hok; exact (lp_0 hok).elim
    | succ fuel ih4 =>
      intro y2_4 y3_4 H locs ls hP hD hS hl hok
      obtain ⟨y4, hok, hL4, hR4⟩ := lp_step hok
      have J35 : ∀ (y2_35 : Int32), ∀ (H : Heap) (locs : List Loc) (ls : Array Slot), va_P D vwCl (wX7_worthOf cy aU qU vU vU_worths) H → va_D A (wX7_worthOf cy aU qU vU vU_worths) → va_S A s.heap H locs → lv_has ls 4 [(0, .ref aU), (1, .int x1), (2, .int y2_35), (3, .int y3_4)] → fX7_worthOf_J35 y3_4 y2_35 = some y4 → W p l e ({ frames := 0, cells := 0, slots := 0, locals := 0 } : Room) s m ([.ref aU, .int x1] : List Value).toArray below meth c H locs 0 0 Q (F0 m 35 ls []) := by
        intro y2_35 H locs ls hP hD hS hl hok
        unfold fX7_worthOf_J35 at hok
        refine lv_iinc (v := (y3_4 + 1)) (lv' := [(3, .int (y3_4 + 1)), (0, .ref aU), (1, .int x1), (2, .int y2_35)]) hx hb dX7_worthOf_35 hl (k := 3) rfl (by first | rfl | decide) (by decide) rfl (fun ls hl => ?_)
        refine lv_goto (tgt := 4) hx hb dX7_worthOf_38 (by decide) ?_
        exact ih4 y2_35 (y3_4 + 1) H locs ls hP hD hS (lv_sub hl [1, 2, 3, 0] rfl) (hR4 _ (Option.some.inj hok).symm)
      unfold fX7_worthOf_B4 at hok
      try dsimp only at hok
      refine lv_iload_n hx hb dX7_worthOf_4 rfl (lv_at hl 3 rfl) ?_
      refine lv_aload_n hx hb dX7_worthOf_5 rfl (lv_at hl 0 rfl) ?_
      refine va_get (D := D) (ci := 6) (v := .int (vU 0)) (C := RX7) (T := TX7) (N := 5) hx hb ht0 niX7 hown hK hP 0 rfl rfl 0 (by decide) (ht0 _ wd202) (fun _ h9 => h9) rfl dX7_worthOf_6 ?_
      refine lv_icmp_ge (tgt := 41) hx hb dX7_worthOf_9 (by decide) (fun c9 => ?_) (fun c9 => ?_)
      · have hok := k_pos c9 hok
        obtain ⟨e4, hok, he4⟩ := ex_some hok
        have hok := hok.trans (congrArg some (hL4 _ he4))
        exact J41 y2_4 H locs ls hP hD hS (lv_sub hl [2] rfl) hok
      · have hok := k_neg c9 hok
        refine lv_iload_n hx hb dX7_worthOf_12 rfl (lv_at hl 3 rfl) ?_
        refine lv_bipush (v := 6) hx hb dX7_worthOf_13 (by decide) ?_
        refine lv_icmp_ge (tgt := 41) hx hb dX7_worthOf_15 (by decide) (fun c15 => ?_) (fun c15 => ?_)
        · have hok := k_pos c15 hok
          obtain ⟨e4, hok, he4⟩ := ex_some hok
          have hok := hok.trans (congrArg some (hL4 _ he4))
          exact J41 y2_4 H locs ls hP hD hS (lv_sub hl [2] rfl) hok
        · have hok := k_neg c15 hok
          refine lv_iload_n hx hb dX7_worthOf_18 rfl (lv_at hl 1 rfl) ?_
          refine lv_iload_n hx hb dX7_worthOf_19 rfl (lv_at hl 3 rfl) ?_
          refine lv_ishr hx hb dX7_worthOf_20 ?_
          refine lv_iconst (v := 1) hx hb dX7_worthOf_21 (by decide) ?_
          refine lv_iand hx hb dX7_worthOf_22 ?_
          refine lv_if_eq (tgt := 35) hx hb dX7_worthOf_23 (by decide) (fun c23 => ?_) (fun c23 => ?_)
          · have hok := k_pos c23 hok
            exact J35 y2_4 H locs ls hP hD hS (lv_sub hl [0, 1, 2, 3] rfl) hok
          · have hok := k_neg c23 hok
            refine lv_iload_n hx hb dX7_worthOf_26 rfl (lv_at hl 2 rfl) ?_
            refine lv_aload_n hx hb dX7_worthOf_27 rfl (lv_at hl 0 rfl) ?_
            refine va_get (D := D) (ci := 6) (v := .ref (qU 4)) (C := RX7) (T := TX7) (N := 5) hx hb ht0 niX7 hown hK hP 0 rfl rfl 4 (by decide) (ht0 _ wd205) (fun _ h9 => h9) rfl dX7_worthOf_28 ?_
            refine lv_iload_n hx hb dX7_worthOf_31 rfl (lv_at hl 3 rfl) ?_
            obtain ⟨g32, hok⟩ := gd_some hok
            refine va_iald hx hb hK hP 1 0 rfl rfl (okI_in g32) dX7_worthOf_32 ?_
            refine lv_iadd hx hb dX7_worthOf_33 ?_
            refine lv_istore_n (lv' := [(2, .int (y2_4 + (vU_worths y3_4.toNatClampNeg))), (0, .ref aU), (1, .int x1), (3, .int y3_4)]) hx hb dX7_worthOf_34 rfl hl (by decide) rfl (fun ls hl => ?_)
            exact J35 (y2_4 + (vU_worths y3_4.toNatClampNeg)) H locs ls hP hD hS (lv_sub hl [1, 2, 0, 3] rfl) hok
  unfold fX7_worthOf at hok
  obtain ⟨H, hH⟩ : ∃ H, H = s.heap := ⟨_, rfl⟩
  obtain ⟨locs, hlc⟩ : ∃ x : List Loc, x = [] := ⟨_, rfl⟩
  have hP : va_P D vwCl (wX7_worthOf cy aU qU vU vU_worths) H := by rw [hH]; exact hP
  have hS : va_S A s.heap H locs := by rw [hH, hlc]; exact hS
  rw [show W p l e _ s m _ below meth c s.heap [] = W p l e _ s m _ below meth c H locs from by rw [hH, hlc]]
  refine lv_iconst (v := 0) hx hb dX7_worthOf_0 (by decide) ?_
  refine lv_istore_n (lv' := [(2, .int 0), (0, .ref aU), (1, .int x1)]) hx hb dX7_worthOf_1 rfl hl (by decide) rfl (fun ls hl => ?_)
  refine lv_iconst (v := 0) hx hb dX7_worthOf_2 (by decide) ?_
  refine lv_istore_n (lv' := [(3, .int 0), (2, .int 0), (0, .ref aU), (1, .int x1)]) hx hb dX7_worthOf_3 rfl hl (by decide) rfl (fun ls hl => ?_)
  exact L4 5000 (0 : Int32) (0 : Int32) H locs ls hP hD hS (lv_sub hl [2, 3, 1, 0] rfl) hok
def wsX7_lastNightOf : List Cond := .code yX7_lastNightOf cX7_lastNightOf 4 (some .int) :: W0
abbrev wX7_lastNightOf (cy : Nat → ClassId) (aU : Nat) (qU : Nat → Nat) (vU : Nat → Int32) (vU_nights : Nat → Int32) : va_W := [(aU, oX7 vU qU), (qU 3, rI cy 6 vU_nights)]
set_option maxHeartbeats 4000000 in
set_option maxRecDepth 100000 in
theorem kX7_lastNightOf (l : Launch) (D : va_G) (cy : Nat → ClassId) (sz : Nat) (aU : Nat) (qU : Nat → Nat) (vU : Nat → Int32) (vU_nights : Nat → Int32) (x1 : Int32) (zr : Int32) (hok : fX7_lastNightOf vU vU_nights x1 = some zr) (A : Nat → Prop) (hAe : va_A (wX7_lastNightOf cy aU qU vU vU_nights) sz = A) : Met l yX7_lastNightOf wsX7_lastNightOf ({ frames := 1, cells := 0, slots := 0, locals := 21 } : Room) (kPre D cy [.ref aU, .int x1] (wX7_lastNightOf cy aU qU vU vU_nights) sz) (kQi D cy zr A (wX7_lastNightOf cy aU qU vU vU_nights)) 0 0 A := by
  refine Met.ofW (cc := cX7_lastNightOf) (maxL := 4) (ret := (some .int)) (by decide) rfl ?_
  intro p e s m args below meth c s₁ B hml hv
  obtain ⟨rfl, hsz, hP, hK, hD0, hN⟩ := hv
  have hx := B.exec
  have hb := B.bytes
  have hr := B.returns
  have ht0 : ∀ w ∈ W0, w.before _ s = true := fun w h => atoms_spec (ws := wsX7_lastNightOf) B.pre w (List.mem_cons_of_mem _ h)
  have hown : s.vm.findClass RX7 = some m.cls := findClass_of_methodNamed B.named
  have hlocks := B.notSynchronized
  subst hsz
  have hD : va_D A (wX7_lastNightOf cy aU qU vU vU_nights) := by rw [← hAe]; exact hD0.self
  have hA : ∀ q : Nat, s.heap.size ≤ q → A q := fun q h => by rw [← hAe]; exact Or.inr h
  have hS : va_S A s.heap s.heap [] := va_S.rf
  have hl := lv_entry ([.ref aU, .int x1]) (n := 4) (Nat.le_of_ble_eq_true rfl)
  rw [lg_entry_eq]
  generalize (lg_sl ([.ref aU, .int x1]) ++ List.replicate (4 - (lg_sl ([.ref aU, .int x1])).length) Slot.unset).toArray = ls at hl ⊢
  have hl : lv_has ls 4 [(0, .ref aU), (1, .int x1)] := hl
  generalize hQe : MQ below (kQi D cy zr A (wX7_lastNightOf cy aU qU vU vU_nights)) ([.ref aU, .int x1] : List Value).toArray s 0 0 A = Q
  have J43 : ∀ (y2_43 : Int32), ∀ (H : Heap) (locs : List Loc) (ls : Array Slot), va_P D vwCl (wX7_lastNightOf cy aU qU vU vU_nights) H → va_D A (wX7_lastNightOf cy aU qU vU vU_nights) → va_S A s.heap H locs → lv_has ls 4 [(2, .int y2_43)] → fX7_lastNightOf_J43 y2_43 = some zr → W p l e ({ frames := 1, cells := 0, slots := 0, locals := 21 } : Room) s m ([.ref aU, .int x1] : List Value).toArray below meth c H locs 0 0 Q (F0 m 43 ls []) := by
    intro y2_43 H locs ls hP hD hS hl hok
    unfold fX7_lastNightOf_J43 at hok
    refine lv_iload_n hx hb dX7_lastNightOf_43 rfl (lv_at hl 0 rfl) ?_
    cases hok
    subst hQe; exact W.iret hx hb hr (fun t ht hW => ⟨⟨_, (), rfl, rfl, by rw [ht]; exact hP, va_K.moved hW.alike hK, hD⟩, hS.F ht⟩) hS.2.2 dX7_lastNightOf_44
  have L4 : ∀ (fuel : Nat) (y2_4 : Int32) (y3_4 : Int32), ∀ (H : Heap) (locs : List Loc) (ls : Array Slot), va_P D vwCl (wX7_lastNightOf cy aU qU vU vU_nights) H → va_D A (wX7_lastNightOf cy aU qU vU vU_nights) → va_S A s.heap H locs → lv_has ls 4 [(0, .ref aU), (1, .int x1), (2, .int y2_4), (3, .int y3_4)] → lp (fX7_lastNightOf_B4 vU vU_nights x1) fuel (y2_4, y3_4) = some zr → W p l e ({ frames := 1, cells := 0, slots := 0, locals := 21 } : Room) s m ([.ref aU, .int x1] : List Value).toArray below meth c H locs 0 0 Q (F0 m 4 ls []) := by
    intro fuel
    induction fuel with
    | zero => intro y2_4 y3_4 H locs ls hP hD hS hl hok; exact (lp_0 hok).elim
    | succ fuel ih4 =>
      intro y2_4 y3_4 H locs ls hP hD hS hl hok
      obtain ⟨y4, hok, hL4, hR4⟩ := lp_step hok
      have J37 : ∀ (y2_37 : Int32), ∀ (H : Heap) (locs : List Loc) (ls : Array Slot), va_P D vwCl (wX7_lastNightOf cy aU qU vU vU_nights) H → va_D A (wX7_lastNightOf cy aU qU vU vU_nights) → va_S A s.heap H locs → lv_has ls 4 [(0, .ref aU), (1, .int x1), (2, .int y2_37), (3, .int y3_4)] → fX7_lastNightOf_J37 y3_4 y2_37 = some y4 → W p l e ({ frames := 1, cells := 0, slots := 0, locals := 21 } : Room) s m ([.ref aU, .int x1] : List Value).toArray below meth c H locs 0 0 Q (F0 m 37 ls []) := by
        intro y2_37 H locs ls hP hD hS hl hok
        unfold fX7_lastNightOf_J37 at hok
        refine lv_iinc (v := (y3_4 + 1)) (lv' := [(3, .int (y3_4 + 1)), (0, .ref aU), (1, .int x1), (2, .int y2_37)]) hx hb dX7_lastNightOf_37 hl (k := 3) rfl (by first | rfl | decide) (by decide) rfl (fun ls hl => ?_)
        refine lv_goto (tgt := 4) hx hb dX7_lastNightOf_40 (by decide) ?_
        exact ih4 y2_37 (y3_4 + 1) H locs ls hP hD hS (lv_sub hl [1, 2, 3, 0] rfl) (hR4 _ (Option.some.inj hok).symm)
      unfold fX7_lastNightOf_B4 at hok
      try dsimp only at hok
      refine lv_iload_n hx hb dX7_lastNightOf_4 rfl (lv_at hl 3 rfl) ?_
      refine lv_aload_n hx hb dX7_lastNightOf_5 rfl (lv_at hl 0 rfl) ?_
      refine va_get (D := D) (ci := 6) (v := .int (vU 0)) (C := RX7) (T := TX7) (N := 5) hx hb ht0 niX7 hown hK hP 0 rfl rfl 0 (by decide) (ht0 _ wd202) (fun _ h9 => h9) rfl dX7_lastNightOf_6 ?_
      refine lv_icmp_ge (tgt := 43) hx hb dX7_lastNightOf_9 (by decide) (fun c9 => ?_) (fun c9 => ?_)
      · have hok := k_pos c9 hok
        obtain ⟨e4, hok, he4⟩ := ex_some hok
        have hok := hok.trans (congrArg some (hL4 _ he4))
        exact J43 y2_4 H locs ls hP hD hS (lv_sub hl [2] rfl) hok
      · have hok := k_neg c9 hok
        refine lv_iload_n hx hb dX7_lastNightOf_12 rfl (lv_at hl 3 rfl) ?_
        refine lv_bipush (v := 6) hx hb dX7_lastNightOf_13 (by decide) ?_
        refine lv_icmp_ge (tgt := 43) hx hb dX7_lastNightOf_15 (by decide) (fun c15 => ?_) (fun c15 => ?_)
        · have hok := k_pos c15 hok
          obtain ⟨e4, hok, he4⟩ := ex_some hok
          have hok := hok.trans (congrArg some (hL4 _ he4))
          exact J43 y2_4 H locs ls hP hD hS (lv_sub hl [2] rfl) hok
        · have hok := k_neg c15 hok
          refine lv_iload_n hx hb dX7_lastNightOf_18 rfl (lv_at hl 1 rfl) ?_
          refine lv_iload_n hx hb dX7_lastNightOf_19 rfl (lv_at hl 3 rfl) ?_
          refine lv_ishr hx hb dX7_lastNightOf_20 ?_
          refine lv_iconst (v := 1) hx hb dX7_lastNightOf_21 (by decide) ?_
          refine lv_iand hx hb dX7_lastNightOf_22 ?_
          refine lv_if_eq (tgt := 37) hx hb dX7_lastNightOf_23 (by decide) (fun c23 => ?_) (fun c23 => ?_)
          · have hok := k_pos c23 hok
            exact J37 y2_4 H locs ls hP hD hS (lv_sub hl [0, 1, 2, 3] rfl) hok
          · have hok := k_neg c23 hok
            refine lv_iload_n hx hb dX7_lastNightOf_26 rfl (lv_at hl 2 rfl) ?_
            refine lv_aload_n hx hb dX7_lastNightOf_27 rfl (lv_at hl 0 rfl) ?_
            refine va_get (D := D) (ci := 6) (v := .ref (qU 3)) (C := RX7) (T := TX7) (N := 5) hx hb ht0 niX7 hown hK hP 0 rfl rfl 3 (by decide) (ht0 _ wd203) (fun _ h9 => h9) rfl dX7_lastNightOf_28 ?_
            refine lv_iload_n hx hb dX7_lastNightOf_31 rfl (lv_at hl 3 rfl) ?_
            obtain ⟨g32, hok⟩ := gd_some hok
            refine va_iald hx hb hK hP 1 0 rfl rfl (okI_in g32) dX7_lastNightOf_32 ?_
            refine va_mmax hx hb (hml.trans hl.1.symm) hown (ht0 _ wd206) (ht0 _ wd36) (ht0 _ wd37) (ht0 _ wd38) (Nat.le_of_ble_eq_true rfl) (Nat.le_of_ble_eq_true rfl) (Nat.zero_le _) (Nat.zero_le _) dX7_lastNightOf_33 ?_
            refine lv_istore_n (lv' := [(2, .int (if y2_4 < (vU_nights y3_4.toNatClampNeg) then (vU_nights y3_4.toNatClampNeg) else y2_4)), (0, .ref aU), (1, .int x1), (3, .int y3_4)]) hx hb dX7_lastNightOf_36 rfl hl (by decide) rfl (fun ls hl => ?_)
            exact J37 (if y2_4 < (vU_nights y3_4.toNatClampNeg) then (vU_nights y3_4.toNatClampNeg) else y2_4) H locs ls hP hD hS (lv_sub hl [1, 2, 0, 3] rfl) hok
  unfold fX7_lastNightOf at hok
  obtain ⟨H, hH⟩ : ∃ H, H = s.heap := ⟨_, rfl⟩
  obtain ⟨locs, hlc⟩ : ∃ x : List Loc, x = [] := ⟨_, rfl⟩
  have hP : va_P D vwCl (wX7_lastNightOf cy aU qU vU vU_nights) H := by rw [hH]; exact hP
  have hS : va_S A s.heap H locs := by rw [hH, hlc]; exact hS
  rw [show W p l e _ s m _ below meth c s.heap [] = W p l e _ s m _ below meth c H locs from by rw [hH, hlc]]
  refine lv_iconst (v := 0) hx hb dX7_lastNightOf_0 (by decide) ?_
  refine lv_istore_n (lv' := [(2, .int 0), (0, .ref aU), (1, .int x1)]) hx hb dX7_lastNightOf_1 rfl hl (by decide) rfl (fun ls hl => ?_)
  refine lv_iconst (v := 0) hx hb dX7_lastNightOf_2 (by decide) ?_
  refine lv_istore_n (lv' := [(3, .int 0), (2, .int 0), (0, .ref aU), (1, .int x1)]) hx hb dX7_lastNightOf_3 rfl hl (by decide) rfl (fun ls hl => ?_)
  exact L4 5000 (0 : Int32) (0 : Int32) H locs ls hP hD hS (lv_sub hl [2, 3, 1, 0] rfl) hok
def wsX6_nightNow : List Cond := .code yX6_nightNow cX6_nightNow 1 (some .int) :: W0
abbrev wX6_nightNow (cy : Nat → ClassId) (aW : Nat) (qW : Nat → Nat) (aH : Nat) (fvW_4 : Nat) (vW : Nat → Int32) : va_W := [(aW, oX6 vW qW fvW_4)]
set_option maxHeartbeats 4000000 in
set_option maxRecDepth 100000 in
theorem kX6_nightNow (l : Launch) (D : va_G) (cy : Nat → ClassId) (sz : Nat) (aW : Nat) (qW : Nat → Nat) (aH : Nat) (vW : Nat → Int32) (zr : Int32) (hok : fX6_nightNow vW = some zr) (A : Nat → Prop) (hAe : va_A (wX6_nightNow cy aW qW aH aH vW) sz = A) : Met l yX6_nightNow wsX6_nightNow ({ frames := 0, cells := 0, slots := 0, locals := 0 } : Room) (kPre D cy [.ref aW] (wX6_nightNow cy aW qW aH aH vW) sz) (kQi D cy zr A (wX6_nightNow cy aW qW aH aH vW)) 0 0 A := by
  refine Met.ofW (cc := cX6_nightNow) (maxL := 1) (ret := (some .int)) (by decide) rfl ?_
  intro p e s m args below meth c s₁ B hml hv
  obtain ⟨rfl, hsz, hP, hK, hD0, hN⟩ := hv
  have hx := B.exec
  have hb := B.bytes
  have hr := B.returns
  have ht0 : ∀ w ∈ W0, w.before _ s = true := fun w h => atoms_spec (ws := wsX6_nightNow) B.pre w (List.mem_cons_of_mem _ h)
  have hown : s.vm.findClass RX6 = some m.cls := findClass_of_methodNamed B.named
  have hlocks := B.notSynchronized
  subst hsz
  have hD : va_D A (wX6_nightNow cy aW qW aH aH vW) := by rw [← hAe]; exact hD0.self
  have hA : ∀ q : Nat, s.heap.size ≤ q → A q := fun q h => by rw [← hAe]; exact Or.inr h
  have hS : va_S A s.heap s.heap [] := va_S.rf
  have hl := lv_entry ([.ref aW]) (n := 1) (Nat.le_of_ble_eq_true rfl)
  rw [lg_entry_eq]
  generalize (lg_sl ([.ref aW]) ++ List.replicate (1 - (lg_sl ([.ref aW])).length) Slot.unset).toArray = ls at hl ⊢
  have hl : lv_has ls 1 [(0, .ref aW)] := hl
  unfold fX6_nightNow at hok
  obtain ⟨H, hH⟩ : ∃ H, H = s.heap := ⟨_, rfl⟩
  obtain ⟨locs, hlc⟩ : ∃ x : List Loc, x = [] := ⟨_, rfl⟩
  have hP : va_P D vwCl (wX6_nightNow cy aW qW aH aH vW) H := by rw [hH]; exact hP
  have hS : va_S A s.heap H locs := by rw [hH, hlc]; exact hS
  rw [show W p l e _ s m _ below meth c s.heap [] = W p l e _ s m _ below meth c H locs from by rw [hH, hlc]]
  refine lv_aload_n hx hb dX6_nightNow_0 rfl (lv_at hl 0 rfl) ?_
  refine va_get (D := D) (ci := 5) (v := .int (vW 5)) (C := RX6) (T := TX6) (N := 13) hx hb ht0 niX6 hown hK hP 0 rfl rfl 5 (by decide) (ht0 _ wd120) (fun _ h9 => h9) rfl dX6_nightNow_1 ?_
  cases hok
  exact W.iret hx hb hr (fun t ht hW => ⟨⟨_, (), rfl, rfl, by rw [ht]; exact hP, va_K.moved hW.alike hK, hD⟩, hS.F ht⟩) hS.2.2 dX6_nightNow_4
def wsX7_paidBy : List Cond := .code yX7_paidBy cX7_paidBy 4 (some .int) :: W0
abbrev wX7_paidBy (cy : Nat → ClassId) (aU : Nat) (aW : Nat) (qU : Nat → Nat) (qW : Nat → Nat) (aH : Nat) (fvW_4 : Nat) (vU : Nat → Int32) (vU_nights : Nat → Int32) (vW : Nat → Int32) (vU_things : Nat → Int32) (vW_cells : Nat → Int32) (vU_cells : Nat → Int32) : va_W := [(aU, oX7 vU qU), (qU 3, rI cy 6 vU_nights), (aW, oX6 vW qW fvW_4), (qU 1, rI cy 6 vU_things), (qW 0, rI cy 7 vW_cells), (qU 2, rI cy 6 vU_cells)]
set_option maxHeartbeats 4000000 in
set_option maxRecDepth 100000 in
theorem kX7_paidBy (l : Launch) (D : va_G) (cy : Nat → ClassId) (sz : Nat) (aU : Nat) (aW : Nat) (qU : Nat → Nat) (qW : Nat → Nat) (aH : Nat) (vU : Nat → Int32) (vU_nights : Nat → Int32) (vW : Nat → Int32) (vU_things : Nat → Int32) (vW_cells : Nat → Int32) (vU_cells : Nat → Int32) (zr : Int32) (hok : fX7_paidBy vU vU_nights vW vU_things vW_cells vU_cells = some zr) (A : Nat → Prop) (hAe : va_A (wX7_paidBy cy aU aW qU qW aH aH vU vU_nights vW vU_things vW_cells vU_cells) sz = A) : Met l yX7_paidBy wsX7_paidBy ({ frames := 1, cells := 0, slots := 0, locals := 21 } : Room) (kPre D cy [.ref aU, .ref aW] (wX7_paidBy cy aU aW qU qW aH aH vU vU_nights vW vU_things vW_cells vU_cells) sz) (kQi D cy zr A (wX7_paidBy cy aU aW qU qW aH aH vU vU_nights vW vU_things vW_cells vU_cells)) 0 0 A := by
  refine Met.ofW (cc := cX7_paidBy) (maxL := 4) (ret := (some .int)) (by decide) rfl ?_
  intro p e s m args below meth c s₁ B hml hv
  obtain ⟨rfl, hsz, hP, hK, hD0, hN⟩ := hv
  have hx := B.exec
  have hb := B.bytes
  have hr := B.returns
  have ht0 : ∀ w ∈ W0, w.before _ s = true := fun w h => atoms_spec (ws := wsX7_paidBy) B.pre w (List.mem_cons_of_mem _ h)
  have hown : s.vm.findClass RX7 = some m.cls := findClass_of_methodNamed B.named
  have hlocks := B.notSynchronized
  subst hsz
  have hD : va_D A (wX7_paidBy cy aU aW qU qW aH aH vU vU_nights vW vU_things vW_cells vU_cells) := by rw [← hAe]; exact hD0.self
  have hA : ∀ q : Nat, s.heap.size ≤ q → A q := fun q h => by rw [← hAe]; exact Or.inr h
  have hS : va_S A s.heap s.heap [] := va_S.rf
  have hl := lv_entry ([.ref aU, .ref aW]) (n := 4) (Nat.le_of_ble_eq_true rfl)
  rw [lg_entry_eq]
  generalize (lg_sl ([.ref aU, .ref aW]) ++ List.replicate (4 - (lg_sl ([.ref aU, .ref aW])).length) Slot.unset).toArray = ls at hl ⊢
  have hl : lv_has ls 4 [(0, .ref aU), (1, .ref aW)] := hl
  generalize hQe : MQ below (kQi D cy zr A (wX7_paidBy cy aU aW qU qW aH aH vU vU_nights vW vU_things vW_cells vU_cells)) ([.ref aU, .ref aW] : List Value).toArray s 0 0 A = Q
  have J62 : ∀ (y2_62 : Int32), ∀ (H : Heap) (locs : List Loc) (ls : Array Slot), va_P D vwCl (wX7_paidBy cy aU aW qU qW aH aH vU vU_nights vW vU_things vW_cells vU_cells) H → va_D A (wX7_paidBy cy aU aW qU qW aH aH vU vU_nights vW vU_things vW_cells vU_cells) → va_S A s.heap H locs → lv_has ls 4 [(2, .int y2_62)] → fX7_paidBy_J62 y2_62 = some zr → W p l e ({ frames := 1, cells := 0, slots := 0, locals := 21 } : Room) s m ([.ref aU, .ref aW] : List Value).toArray below meth c H locs 0 0 Q (F0 m 62 ls []) := by
    intro y2_62 H locs ls hP hD hS hl hok
    unfold fX7_paidBy_J62 at hok
    refine lv_iload_n hx hb dX7_paidBy_62 rfl (lv_at hl 0 rfl) ?_
    cases hok
    subst hQe; exact W.iret hx hb hr (fun t ht hW => ⟨⟨_, (), rfl, rfl, by rw [ht]; exact hP, va_K.moved hW.alike hK, hD⟩, hS.F ht⟩) hS.2.2 dX7_paidBy_63
  have L4 : ∀ (fuel : Nat) (y2_4 : Int32) (y3_4 : Int32), ∀ (H : Heap) (locs : List Loc) (ls : Array Slot), va_P D vwCl (wX7_paidBy cy aU aW qU qW aH aH vU vU_nights vW vU_things vW_cells vU_cells) H → va_D A (wX7_paidBy cy aU aW qU qW aH aH vU vU_nights vW vU_things vW_cells vU_cells) → va_S A s.heap H locs → lv_has ls 4 [(0, .ref aU), (1, .ref aW), (2, .int y2_4), (3, .int y3_4)] → lp (fX7_paidBy_B4 vU vU_nights vW vU_things vW_cells vU_cells) fuel (y2_4, y3_4) = some zr → W p l e ({ frames := 1, cells := 0, slots := 0, locals := 21 } : Room) s m ([.ref aU, .ref aW] : List Value).toArray below meth c H locs 0 0 Q (F0 m 4 ls []) := by
    intro fuel
    induction fuel with
    | zero => intro y2_4 y3_4 H locs ls hP hD hS hl hok; exact (lp_0 hok).elim
    | succ fuel ih4 =>
      intro y2_4 y3_4 H locs ls hP hD hS hl hok
      obtain ⟨y4, hok, hL4, hR4⟩ := lp_step hok
      have J56 : ∀ (y2_56 : Int32), ∀ (H : Heap) (locs : List Loc) (ls : Array Slot), va_P D vwCl (wX7_paidBy cy aU aW qU qW aH aH vU vU_nights vW vU_things vW_cells vU_cells) H → va_D A (wX7_paidBy cy aU aW qU qW aH aH vU vU_nights vW vU_things vW_cells vU_cells) → va_S A s.heap H locs → lv_has ls 4 [(0, .ref aU), (1, .ref aW), (2, .int y2_56), (3, .int y3_4)] → fX7_paidBy_J56 y3_4 y2_56 = some y4 → W p l e ({ frames := 1, cells := 0, slots := 0, locals := 21 } : Room) s m ([.ref aU, .ref aW] : List Value).toArray below meth c H locs 0 0 Q (F0 m 56 ls []) := by
        intro y2_56 H locs ls hP hD hS hl hok
        unfold fX7_paidBy_J56 at hok
        refine lv_iinc (v := (y3_4 + 1)) (lv' := [(3, .int (y3_4 + 1)), (0, .ref aU), (1, .ref aW), (2, .int y2_56)]) hx hb dX7_paidBy_56 hl (k := 3) rfl (by first | rfl | decide) (by decide) rfl (fun ls hl => ?_)
        refine lv_goto (tgt := 4) hx hb dX7_paidBy_59 (by decide) ?_
        exact ih4 y2_56 (y3_4 + 1) H locs ls hP hD hS (lv_sub hl [1, 2, 3, 0] rfl) (hR4 _ (Option.some.inj hok).symm)
      unfold fX7_paidBy_B4 at hok
      try dsimp only at hok
      refine lv_iload_n hx hb dX7_paidBy_4 rfl (lv_at hl 3 rfl) ?_
      refine lv_aload_n hx hb dX7_paidBy_5 rfl (lv_at hl 0 rfl) ?_
      refine va_get (D := D) (ci := 6) (v := .int (vU 0)) (C := RX7) (T := TX7) (N := 5) hx hb ht0 niX7 hown hK hP 0 rfl rfl 0 (by decide) (ht0 _ wd202) (fun _ h9 => h9) rfl dX7_paidBy_6 ?_
      refine lv_icmp_ge (tgt := 62) hx hb dX7_paidBy_9 (by decide) (fun c9 => ?_) (fun c9 => ?_)
      · have hok := k_pos c9 hok
        obtain ⟨e4, hok, he4⟩ := ex_some hok
        have hok := hok.trans (congrArg some (hL4 _ he4))
        exact J62 y2_4 H locs ls hP hD hS (lv_sub hl [2] rfl) hok
      · have hok := k_neg c9 hok
        refine lv_iload_n hx hb dX7_paidBy_12 rfl (lv_at hl 3 rfl) ?_
        refine lv_bipush (v := 6) hx hb dX7_paidBy_13 (by decide) ?_
        refine lv_icmp_ge (tgt := 62) hx hb dX7_paidBy_15 (by decide) (fun c15 => ?_) (fun c15 => ?_)
        · have hok := k_pos c15 hok
          obtain ⟨e4, hok, he4⟩ := ex_some hok
          have hok := hok.trans (congrArg some (hL4 _ he4))
          exact J62 y2_4 H locs ls hP hD hS (lv_sub hl [2] rfl) hok
        · have hok := k_neg c15 hok
          refine lv_aload_n hx hb dX7_paidBy_18 rfl (lv_at hl 0 rfl) ?_
          refine va_get (D := D) (ci := 6) (v := .ref (qU 3)) (C := RX7) (T := TX7) (N := 5) hx hb ht0 niX7 hown hK hP 0 rfl rfl 3 (by decide) (ht0 _ wd203) (fun _ h9 => h9) rfl dX7_paidBy_19 ?_
          refine lv_iload_n hx hb dX7_paidBy_22 rfl (lv_at hl 3 rfl) ?_
          obtain ⟨g23, hok⟩ := gd_some hok
          refine va_iald hx hb hK hP 1 0 rfl rfl (okI_in g23) dX7_paidBy_23 ?_
          refine lv_aload_n hx hb dX7_paidBy_24 rfl (lv_at hl 1 rfl) ?_
          obtain ⟨r25, hc25, hok⟩ := k_bind hok
          refine kCi (wc := (wX6_nightNow cy aW qW aH aH vW)) (wc2 := (wX6_nightNow cy aW qW aH aH vW)) (wr := [(aU, oX7 vU qU), (qU 3, rI cy 6 vU_nights), (qU 1, rI cy 6 vU_things), (qW 0, rI cy 7 vW_cells), (qU 2, rI cy 6 vU_cells)]) (ws2 := (wX7_paidBy cy aU aW qU qW aH aH vU vU_nights vW vU_things vW_cells vU_cells)) (kRunV (As := []) (rest := [.int (vU_nights y3_4.toNatClampNeg)]) ⟨hx, hb, hml, hown, ht0⟩ (kX6_nightNow l D cy _ aW qW aH vW r25 hc25 _ rfl) (cwV 0 ht0 (gV wd207 wd208 wd209 wd114 wd210) rfl rfl rfl (by decide +kernel) ⟨Nat.le_of_ble_eq_true rfl, Nat.le_of_ble_eq_true rfl⟩) hK hN hP hD [2] rfl (by decide) 2 5 rfl rfl rfl hl.1 rfl (Nat.le_of_ble_eq_true rfl) dX7_paidBy_25 ⟨Nat.zero_le _, Nat.zero_le _⟩) hP hD hS hA [2] [0, 1, 3, 4, 5] rfl rfl (by decide) (by decide) [0, 1, 5, 2, 3, 4] (by decide) rfl rfl (fun H locs hP hD hS => ?_)
          refine lv_icmp_ne (tgt := 56) hx hb dX7_paidBy_28 (by decide) (fun c28 => ?_) (fun c28 => ?_)
          · have hok := k_neg c28 hok
            exact J56 y2_4 H locs ls hP hD hS (lv_sub hl [0, 1, 2, 3] rfl) hok
          · have hok := k_pos c28 hok
            refine lv_aload_n hx hb dX7_paidBy_31 rfl (lv_at hl 1 rfl) ?_
            refine lv_aload_n hx hb dX7_paidBy_32 rfl (lv_at hl 0 rfl) ?_
            refine va_get (D := D) (ci := 6) (v := .ref (qU 1)) (C := RX7) (T := TX7) (N := 5) hx hb ht0 niX7 hown hK hP 0 rfl rfl 1 (by decide) (ht0 _ wd199) (fun _ h9 => h9) rfl dX7_paidBy_33 ?_
            refine lv_iload_n hx hb dX7_paidBy_36 rfl (lv_at hl 3 rfl) ?_
            obtain ⟨g37, hok⟩ := gd_some hok
            refine va_iald hx hb hK hP 3 0 rfl rfl (okI_in g37) dX7_paidBy_37 ?_
            obtain ⟨r38, hc38, hok⟩ := k_bind hok
            refine kCi (wc := (wX6_cellOf cy aW qW aH aH vW vW_cells)) (wc2 := (wX6_cellOf cy aW qW aH aH vW vW_cells)) (wr := [(aU, oX7 vU qU), (qU 3, rI cy 6 vU_nights), (qU 1, rI cy 6 vU_things), (qU 2, rI cy 6 vU_cells)]) (ws2 := (wX7_paidBy cy aU aW qU qW aH aH vU vU_nights vW vU_things vW_cells vU_cells)) (kRunV (As := [.int (vU_things y3_4.toNatClampNeg)]) (rest := []) ⟨hx, hb, hml, hown, ht0⟩ (kX6_cellOf l D cy _ aW qW aH vW vW_cells (vU_things y3_4.toNatClampNeg) r38 hc38 _ rfl) (cwV 1 ht0 (gV wd211 wd163 wd164 wd114 wd165) rfl rfl rfl (by decide +kernel) ⟨Nat.le_of_ble_eq_true rfl, Nat.le_of_ble_eq_true rfl⟩) hK hN hP hD [2, 4] rfl (by decide) 2 5 rfl rfl rfl hl.1 rfl (Nat.le_of_ble_eq_true rfl) dX7_paidBy_38 ⟨Nat.zero_le _, Nat.zero_le _⟩) hP hD hS hA [2, 4] [0, 1, 3, 5] rfl rfl (by decide) (by decide) [0, 1, 4, 2, 5, 3] (by decide) rfl rfl (fun H locs hP hD hS => ?_)
            refine lv_aload_n hx hb dX7_paidBy_41 rfl (lv_at hl 0 rfl) ?_
            refine va_get (D := D) (ci := 6) (v := .ref (qU 2)) (C := RX7) (T := TX7) (N := 5) hx hb ht0 niX7 hown hK hP 0 rfl rfl 2 (by decide) (ht0 _ wd201) (fun _ h9 => h9) rfl dX7_paidBy_42 ?_
            refine lv_iload_n hx hb dX7_paidBy_45 rfl (lv_at hl 3 rfl) ?_
            obtain ⟨g46, hok⟩ := gd_some hok
            refine va_iald hx hb hK hP 5 0 rfl rfl (okI_in g46) dX7_paidBy_46 ?_
            refine lv_icmp_ne (tgt := 56) hx hb dX7_paidBy_47 (by decide) (fun c47 => ?_) (fun c47 => ?_)
            · have hok := k_neg c47 hok
              exact J56 y2_4 H locs ls hP hD hS (lv_sub hl [0, 1, 2, 3] rfl) hok
            · have hok := k_pos c47 hok
              refine lv_iload_n hx hb dX7_paidBy_50 rfl (lv_at hl 2 rfl) ?_
              refine lv_iconst (v := 1) hx hb dX7_paidBy_51 (by decide) ?_
              refine lv_iload_n hx hb dX7_paidBy_52 rfl (lv_at hl 3 rfl) ?_
              refine lv_ishl hx hb dX7_paidBy_53 ?_
              refine lv_ior hx hb dX7_paidBy_54 ?_
              refine lv_istore_n (lv' := [(2, .int (y2_4 ||| (isl (1 : Int32) y3_4))), (0, .ref aU), (1, .ref aW), (3, .int y3_4)]) hx hb dX7_paidBy_55 rfl hl (by decide) rfl (fun ls hl => ?_)
              exact J56 (y2_4 ||| (isl (1 : Int32) y3_4)) H locs ls hP hD hS (lv_sub hl [1, 2, 0, 3] rfl) hok
  unfold fX7_paidBy at hok
  obtain ⟨H, hH⟩ : ∃ H, H = s.heap := ⟨_, rfl⟩
  obtain ⟨locs, hlc⟩ : ∃ x : List Loc, x = [] := ⟨_, rfl⟩
  have hP : va_P D vwCl (wX7_paidBy cy aU aW qU qW aH aH vU vU_nights vW vU_things vW_cells vU_cells) H := by rw [hH]; exact hP
  have hS : va_S A s.heap H locs := by rw [hH, hlc]; exact hS
  rw [show W p l e _ s m _ below meth c s.heap [] = W p l e _ s m _ below meth c H locs from by rw [hH, hlc]]
  refine lv_iconst (v := 0) hx hb dX7_paidBy_0 (by decide) ?_
  refine lv_istore_n (lv' := [(2, .int 0), (0, .ref aU), (1, .ref aW)]) hx hb dX7_paidBy_1 rfl hl (by decide) rfl (fun ls hl => ?_)
  refine lv_iconst (v := 0) hx hb dX7_paidBy_2 (by decide) ?_
  refine lv_istore_n (lv' := [(3, .int 0), (2, .int 0), (0, .ref aU), (1, .ref aW)]) hx hb dX7_paidBy_3 rfl hl (by decide) rfl (fun ls hl => ?_)
  exact L4 5000 (0 : Int32) (0 : Int32) H locs ls hP hD hS (lv_sub hl [2, 3, 1, 0] rfl) hok
def wsX3_paidOf : List Cond := .code yX3_paidOf cX3_paidOf 8 (some .int) :: W0
abbrev wX3_paidOf (cy : Nat → ClassId) (aG : Nat) (aH : Nat) (aD : Nat) (qH : Nat → Nat) (qU : Nat → Nat) (qG : Nat → Nat) (qW : Nat → Nat) (aH0 : Nat) (qD : Nat → Nat) (fvW_4 : Nat) (vH : Nat → Int32) (vU : Nat → Int32) (vU_nights : Nat → Int32) (vG : Nat → Int32) (vW : Nat → Int32) (vD : Nat → Int32) (vD_now : Nat → Int32) (vW_who : Nat → Int32) (vH_kinds : Nat → Int32) (vW_cells : Nat → Int32) (vH_sorts : Nat → Int32) (vH_next : Nat → Int32) (vW_inFront : Nat → Int32) (vH_sizes : Nat → Int32) (vH_width : Nat → Int32) (vU_things : Nat → Int32) (vU_cells : Nat → Int32) : va_W := [(aH, oX4 vH qH), (qH 7, oX7 vU qU), (qU 3, rI cy 6 vU_nights), (aG, oX3 vG qG), (qG 0, oX6 vW qW fvW_4), (aD, oX1 vD qD), (qD 0, rI cy 9 vD_now), (qW 1, rI cy 36 vW_who), (qH 14, rI cy 7 vH_kinds), (qW 0, rI cy 7 vW_cells), (qH 8, rI cy 4 vH_sorts), (qH 10, rI cy 36 vH_next), (qW 2, rI cy 7 vW_inFront), (qH 15, rI cy 7 vH_sizes), (qH 11, rI cy 36 vH_width), (qU 1, rI cy 6 vU_things), (qU 2, rI cy 6 vU_cells)]
set_option maxHeartbeats 4000000 in
set_option maxRecDepth 100000 in
theorem kX3_paidOf (l : Launch) (D : va_G) (cy : Nat → ClassId) (sz : Nat) (aG : Nat) (aH : Nat) (aD : Nat) (qH : Nat → Nat) (qU : Nat → Nat) (qG : Nat → Nat) (qW : Nat → Nat) (aH0 : Nat) (qD : Nat → Nat) (vH : Nat → Int32) (vU : Nat → Int32) (vU_nights : Nat → Int32) (vG : Nat → Int32) (vW : Nat → Int32) (vD : Nat → Int32) (vD_now : Nat → Int32) (vW_who : Nat → Int32) (vH_kinds : Nat → Int32) (vW_cells : Nat → Int32) (vH_sorts : Nat → Int32) (vH_next : Nat → Int32) (vW_inFront : Nat → Int32) (vH_sizes : Nat → Int32) (vH_width : Nat → Int32) (vU_things : Nat → Int32) (vU_cells : Nat → Int32) (x1 : Int32) (x4 : Int32) (zr : Int32) (z_vW : Nat → Int32) (z_vW_who : Nat → Int32) (z_vW_cells : Nat → Int32) (z_vW_inFront : Nat → Int32) (hok : fX3_paidOf vH vU vU_nights vG vW vD vD_now vW_who vH_kinds vW_cells vH_sorts vH_next vW_inFront vH_sizes vH_width vU_things vU_cells x1 x4 = some (zr, z_vW, z_vW_who, z_vW_cells, z_vW_inFront)) (A : Nat → Prop) (hAe : va_A (wX3_paidOf cy aG aH aD qH qU qG qW aH0 qD aH0 vH vU vU_nights vG vW vD vD_now vW_who vH_kinds vW_cells vH_sorts vH_next vW_inFront vH_sizes vH_width vU_things vU_cells) sz = A) : Met l yX3_paidOf wsX3_paidOf ({ frames := 3, cells := 0, slots := 0, locals := 73 } : Room) (kPre D cy [.ref aG, .int x1, .ref aH, .ref aD, .int x4] (wX3_paidOf cy aG aH aD qH qU qG qW aH0 qD aH0 vH vU vU_nights vG vW vD vD_now vW_who vH_kinds vW_cells vH_sorts vH_next vW_inFront vH_sizes vH_width vU_things vU_cells) sz) (kQi D cy zr A (wX3_paidOf cy aG aH aD qH qU qG qW aH0 qD aH vH vU vU_nights vG z_vW vD vD_now z_vW_who vH_kinds z_vW_cells vH_sorts vH_next z_vW_inFront vH_sizes vH_width vU_things vU_cells)) 0 0 A := by
  refine Met.ofW (cc := cX3_paidOf) (maxL := 8) (ret := (some .int)) (by decide) rfl ?_
  intro p e s m args below meth c s₁ B hml hv
  obtain ⟨rfl, hsz, hP, hK, hD0, hN⟩ := hv
  have hx := B.exec
  have hb := B.bytes
  have hr := B.returns
  have ht0 : ∀ w ∈ W0, w.before _ s = true := fun w h => atoms_spec (ws := wsX3_paidOf) B.pre w (List.mem_cons_of_mem _ h)
  have hown : s.vm.findClass RX3 = some m.cls := findClass_of_methodNamed B.named
  have hlocks := B.notSynchronized
  subst hsz
  have hD : va_D A (wX3_paidOf cy aG aH aD qH qU qG qW aH0 qD aH0 vH vU vU_nights vG vW vD vD_now vW_who vH_kinds vW_cells vH_sorts vH_next vW_inFront vH_sizes vH_width vU_things vU_cells) := by rw [← hAe]; exact hD0.self
  have hA : ∀ q : Nat, s.heap.size ≤ q → A q := fun q h => by rw [← hAe]; exact Or.inr h
  have hS : va_S A s.heap s.heap [] := va_S.rf
  have hl := lv_entry ([.ref aG, .int x1, .ref aH, .ref aD, .int x4]) (n := 8) (Nat.le_of_ble_eq_true rfl)
  rw [lg_entry_eq]
  generalize (lg_sl ([.ref aG, .int x1, .ref aH, .ref aD, .int x4]) ++ List.replicate (8 - (lg_sl ([.ref aG, .int x1, .ref aH, .ref aD, .int x4])).length) Slot.unset).toArray = ls at hl ⊢
  have hl : lv_has ls 8 [(0, .ref aG), (1, .int x1), (2, .ref aH), (3, .ref aD), (4, .int x4)] := hl
  generalize hQe : MQ below (kQi D cy zr A (wX3_paidOf cy aG aH aD qH qU qG qW aH0 qD aH vH vU vU_nights vG z_vW vD vD_now z_vW_who vH_kinds z_vW_cells vH_sorts vH_next z_vW_inFront vH_sizes vH_width vU_things vU_cells)) ([.ref aG, .int x1, .ref aH, .ref aD, .int x4] : List Value).toArray s 0 0 A = Q
  have J76 : ∀ (y6_76 : Int32) (vW_cells_76 : Nat → Int32) (vW_inFront_76 : Nat → Int32) (vW_who_76 : Nat → Int32) (vW_76 : Nat → Int32), ∀ (H : Heap) (locs : List Loc) (ls : Array Slot), va_P D vwCl (wX3_paidOf cy aG aH aD qH qU qG qW aH0 qD aH vH vU vU_nights vG vW_76 vD vD_now vW_who_76 vH_kinds vW_cells_76 vH_sorts vH_next vW_inFront_76 vH_sizes vH_width vU_things vU_cells) H → va_D A (wX3_paidOf cy aG aH aD qH qU qG qW aH0 qD aH vH vU vU_nights vG vW_76 vD vD_now vW_who_76 vH_kinds vW_cells_76 vH_sorts vH_next vW_inFront_76 vH_sizes vH_width vU_things vU_cells) → va_S A s.heap H locs → lv_has ls 8 [(1, .int x1), (6, .int y6_76)] → fX3_paidOf_J76 x1 y6_76 vW_cells_76 vW_inFront_76 vW_who_76 vW_76 = some (zr, z_vW, z_vW_who, z_vW_cells, z_vW_inFront) → W p l e ({ frames := 3, cells := 0, slots := 0, locals := 73 } : Room) s m ([.ref aG, .int x1, .ref aH, .ref aD, .int x4] : List Value).toArray below meth c H locs 0 0 Q (F0 m 76 ls []) := by
    intro y6_76 vW_cells_76 vW_inFront_76 vW_who_76 vW_76 H locs ls hP hD hS hl hok
    unfold fX3_paidOf_J76 at hok
    refine lv_iload hx hb dX3_paidOf_76 (lv_at hl 1 rfl) ?_
    refine lv_iload_n hx hb dX3_paidOf_78 rfl (lv_at hl 0 rfl) ?_
    refine lv_iand hx hb dX3_paidOf_79 ?_
    cases hok
    subst hQe; exact W.iret hx hb hr (fun t ht hW => ⟨⟨_, (), rfl, rfl, by rw [ht]; exact hP, va_K.moved hW.alike hK, hD⟩, hS.F ht⟩) hS.2.2 dX3_paidOf_80
  have L27 : ∀ (fuel : Nat) (y5_27 : Int32) (y6_27 : Int32) (y7_27 : Int32) (vW_cells_27 : Nat → Int32) (vW_inFront_27 : Nat → Int32) (vW_who_27 : Nat → Int32) (vW_27 : Nat → Int32), ∀ (H : Heap) (locs : List Loc) (ls : Array Slot), va_P D vwCl (wX3_paidOf cy aG aH aD qH qU qG qW aH0 qD aH vH vU vU_nights vG vW_27 vD vD_now vW_who_27 vH_kinds vW_cells_27 vH_sorts vH_next vW_inFront_27 vH_sizes vH_width vU_things vU_cells) H → va_D A (wX3_paidOf cy aG aH aD qH qU qG qW aH0 qD aH vH vU vU_nights vG vW_27 vD vD_now vW_who_27 vH_kinds vW_cells_27 vH_sorts vH_next vW_inFront_27 vH_sizes vH_width vU_things vU_cells) → va_S A s.heap H locs → lv_has ls 8 [(0, .ref aG), (1, .int x1), (2, .ref aH), (5, .int y5_27), (6, .int y6_27), (7, .int y7_27)] → lp (fX3_paidOf_B27 vH vU vU_nights vH_kinds vH_next vH_sizes vH_width vU_things vU_cells x1) fuel (y5_27, y6_27, y7_27, vW_cells_27, vW_inFront_27, vW_who_27, vW_27) = some (zr, z_vW, z_vW_who, z_vW_cells, z_vW_inFront) → W p l e ({ frames := 3, cells := 0, slots := 0, locals := 73 } : Room) s m ([.ref aG, .int x1, .ref aH, .ref aD, .int x4] : List Value).toArray below meth c H locs 0 0 Q (F0 m 27 ls []) := by
    intro fuel
    induction fuel with
    | zero => intro y5_27 y6_27 y7_27 vW_cells_27 vW_inFront_27 vW_who_27 vW_27 H locs ls hP hD hS hl hok; exact (lp_0 hok).elim
    | succ fuel ih27 =>
      intro y5_27 y6_27 y7_27 vW_cells_27 vW_inFront_27 vW_who_27 vW_27 H locs ls hP hD hS hl hok
      obtain ⟨y27, hok, hL27, hR27⟩ := lp_step hok
      unfold fX3_paidOf_B27 at hok
      try dsimp only at hok
      refine lv_iload hx hb dX3_paidOf_27 (lv_at hl 5 rfl) ?_
      refine lv_bipush (v := 60) hx hb dX3_paidOf_29 (by decide) ?_
      refine lv_icmp_ge (tgt := 76) hx hb dX3_paidOf_31 (by decide) (fun c31 => ?_) (fun c31 => ?_)
      · have hok := k_pos c31 hok
        obtain ⟨e27, hok, he27⟩ := ex_some hok
        have hok := hok.trans (congrArg some (hL27 _ he27))
        exact J76 y6_27 vW_cells_27 vW_inFront_27 vW_who_27 vW_27 H locs ls hP hD hS (lv_sub hl [1, 4] rfl) hok
      · have hok := k_neg c31 hok
        refine lv_aload_n hx hb dX3_paidOf_34 rfl (lv_at hl 0 rfl) ?_
        refine va_get (D := D) (ci := 2) (v := .ref (qG 0)) (C := RX3) (T := TX3) (N := 1) hx hb ht0 niX3 hown hK hP 3 rfl rfl 0 (by decide) (ht0 _ wd170) (fun _ h9 => h9) rfl dX3_paidOf_35 ?_
        obtain ⟨r38, hc38, hok⟩ := k_bind hok
        refine kCi (wc := (wX6_nightNow cy (qG 0) qW aH aH vW_27)) (wc2 := (wX6_nightNow cy (qG 0) qW aH aH vW_27)) (wr := [(aH, oX4 vH qH), (qH 7, oX7 vU qU), (qU 3, rI cy 6 vU_nights), (aG, oX3 vG qG), (aD, oX1 vD qD), (qD 0, rI cy 9 vD_now), (qW 1, rI cy 36 vW_who_27), (qH 14, rI cy 7 vH_kinds), (qW 0, rI cy 7 vW_cells_27), (qH 8, rI cy 4 vH_sorts), (qH 10, rI cy 36 vH_next), (qW 2, rI cy 7 vW_inFront_27), (qH 15, rI cy 7 vH_sizes), (qH 11, rI cy 36 vH_width), (qU 1, rI cy 6 vU_things), (qU 2, rI cy 6 vU_cells)]) (ws2 := (wX3_paidOf cy aG aH aD qH qU qG qW aH0 qD aH vH vU vU_nights vG vW_27 vD vD_now vW_who_27 vH_kinds vW_cells_27 vH_sorts vH_next vW_inFront_27 vH_sizes vH_width vU_things vU_cells)) (kRunV (As := []) (rest := []) ⟨hx, hb, hml, hown, ht0⟩ (kX6_nightNow l D cy _ (qG 0) qW aH vW_27 r38 hc38 _ rfl) (cwV 0 ht0 (gV wd212 wd208 wd209 wd114 wd210) rfl rfl rfl (by decide +kernel) ⟨Nat.le_of_ble_eq_true rfl, Nat.le_of_ble_eq_true rfl⟩) hK hN hP hD [4] rfl (by decide) 4 5 rfl rfl rfl hl.1 rfl (Nat.le_of_ble_eq_true rfl) dX3_paidOf_38 ⟨Nat.zero_le _, Nat.zero_le _⟩) hP hD hS hA [4] [0, 1, 2, 3, 5, 6, 7, 8, 9, 10, 11, 12, 13, 14, 15, 16] rfl rfl (by decide) (by decide) [0, 1, 2, 3, 16, 4, 5, 6, 7, 8, 9, 10, 11, 12, 13, 14, 15] (by decide) rfl rfl (fun H locs hP hD hS => ?_)
        refine lv_iload hx hb dX3_paidOf_41 (lv_at hl 3 rfl) ?_
        refine lv_icmp_ge (tgt := 76) hx hb dX3_paidOf_43 (by decide) (fun c43 => ?_) (fun c43 => ?_)
        · have hok := k_pos c43 hok
          obtain ⟨e27, hok, he27⟩ := ex_some hok
          have hok := hok.trans (congrArg some (hL27 _ he27))
          exact J76 y6_27 vW_cells_27 vW_inFront_27 vW_who_27 vW_27 H locs ls hP hD hS (lv_sub hl [1, 4] rfl) hok
        · have hok := k_neg c43 hok
          refine lv_aload_n hx hb dX3_paidOf_46 rfl (lv_at hl 0 rfl) ?_
          refine va_get (D := D) (ci := 2) (v := .ref (qG 0)) (C := RX3) (T := TX3) (N := 1) hx hb ht0 niX3 hown hK hP 3 rfl rfl 0 (by decide) (ht0 _ wd170) (fun _ h9 => h9) rfl dX3_paidOf_47 ?_
          refine lv_iconst (v := 0) hx hb dX3_paidOf_50 (by decide) ?_
          obtain ⟨⟨vW_51, vW_cells_51, vW_who_51, vW_inFront_51⟩, hc51, hok⟩ := k_bind hok
          try dsimp only at hok
          refine kCv (wc := (wX6_pass cy (qG 0) qW aH qH aH vW_27 vH vW_cells_27 vH_next vW_who_27 vW_inFront_27 vH_sizes vH_width vH_kinds)) (wc2 := (wX6_pass cy (qG 0) qW aH qH aH vW_51 vH vW_cells_51 vH_next vW_who_51 vW_inFront_51 vH_sizes vH_width vH_kinds)) (wr := [(qH 7, oX7 vU qU), (qU 3, rI cy 6 vU_nights), (aG, oX3 vG qG), (aD, oX1 vD qD), (qD 0, rI cy 9 vD_now), (qH 8, rI cy 4 vH_sorts), (qU 1, rI cy 6 vU_things), (qU 2, rI cy 6 vU_cells)]) (ws2 := (wX3_paidOf cy aG aH aD qH qU qG qW aH0 qD aH vH vU vU_nights vG vW_51 vD vD_now vW_who_51 vH_kinds vW_cells_51 vH_sorts vH_next vW_inFront_51 vH_sizes vH_width vU_things vU_cells)) (kRunV (As := [.int 0]) (rest := []) ⟨hx, hb, hml, hown, ht0⟩ (kX6_pass l D cy _ (qG 0) qW aH qH vW_27 vH vW_cells_27 vH_next vW_who_27 vW_inFront_27 vH_sizes vH_width vH_kinds (0 : Int32) vW_51 vW_cells_51 vW_who_51 vW_inFront_51 hc51 _ rfl) (cwV 1 ht0 (gV wd213 wd155 wd156 wd114 wd157) rfl rfl rfl (by decide +kernel) ⟨Nat.le_of_ble_eq_true rfl, Nat.le_of_ble_eq_true rfl⟩) hK hN hP hD [4, 0, 9, 11, 7, 12, 13, 14, 8] rfl (by decide) 4 5 rfl rfl rfl hl.1 rfl (Nat.le_of_ble_eq_true rfl) dX3_paidOf_51 ⟨Nat.zero_le _, Nat.zero_le _⟩) hP hD hS hA [4, 0, 9, 11, 7, 12, 13, 14, 8] [1, 2, 3, 5, 6, 10, 15, 16] rfl rfl (by decide) (by decide) [9, 0, 1, 2, 8, 3, 4, 12, 16, 10, 5, 11, 13, 14, 15, 6, 7] (by decide) rfl rfl (fun H locs hP hD hS => ?_)
          refine lv_iload hx hb dX3_paidOf_54 (lv_at hl 4 rfl) ?_
          refine lv_aload_n hx hb dX3_paidOf_56 rfl (lv_at hl 2 rfl) ?_
          refine va_get (D := D) (ci := 3) (v := .ref (qH 7)) (C := RX4) (T := TX4) (N := 20) hx hb ht0 niX4 hown hK hP 0 rfl rfl 7 (by decide) (ht0 _ wd214) (fun _ h9 => h9) rfl dX3_paidOf_57 ?_
          refine lv_aload_n hx hb dX3_paidOf_60 rfl (lv_at hl 0 rfl) ?_
          refine va_get (D := D) (ci := 2) (v := .ref (qG 0)) (C := RX3) (T := TX3) (N := 1) hx hb ht0 niX3 hown hK hP 3 rfl rfl 0 (by decide) (ht0 _ wd170) (fun _ h9 => h9) rfl dX3_paidOf_61 ?_
          obtain ⟨r64, hc64, hok⟩ := k_bind hok
          refine kCi (wc := (wX7_paidBy cy (qH 7) (qG 0) qU qW aH aH vU vU_nights vW_51 vU_things vW_cells_51 vU_cells)) (wc2 := (wX7_paidBy cy (qH 7) (qG 0) qU qW aH aH vU vU_nights vW_51 vU_things vW_cells_51 vU_cells)) (wr := [(aH, oX4 vH qH), (aG, oX3 vG qG), (aD, oX1 vD qD), (qD 0, rI cy 9 vD_now), (qW 1, rI cy 36 vW_who_51), (qH 14, rI cy 7 vH_kinds), (qH 8, rI cy 4 vH_sorts), (qH 10, rI cy 36 vH_next), (qW 2, rI cy 7 vW_inFront_51), (qH 15, rI cy 7 vH_sizes), (qH 11, rI cy 36 vH_width)]) (ws2 := (wX3_paidOf cy aG aH aD qH qU qG qW aH0 qD aH vH vU vU_nights vG vW_51 vD vD_now vW_who_51 vH_kinds vW_cells_51 vH_sorts vH_next vW_inFront_51 vH_sizes vH_width vU_things vU_cells)) (kRunV (As := [.ref (qG 0)]) (rest := [.int y6_27]) ⟨hx, hb, hml, hown, ht0⟩ (kX7_paidBy l D cy _ (qH 7) (qG 0) qU qW aH vU vU_nights vW_51 vU_things vW_cells_51 vU_cells r64 hc64 _ rfl) (cwV 1 ht0 (gV wd215 wd216 wd217 wd218 wd219) rfl rfl rfl (by decide +kernel) ⟨Nat.le_of_ble_eq_true rfl, Nat.le_of_ble_eq_true rfl⟩) hK hN hP hD [1, 2, 4, 15, 9, 16] rfl (by decide) 1 6 rfl rfl rfl hl.1 rfl (Nat.le_of_ble_eq_true rfl) dX3_paidOf_64 ⟨Nat.zero_le _, Nat.zero_le _⟩) hP hD hS hA [1, 2, 4, 15, 9, 16] [0, 3, 5, 6, 7, 8, 10, 11, 12, 13, 14] rfl rfl (by decide) (by decide) [0, 11, 12, 1, 13, 2, 3, 4, 5, 15, 6, 7, 8, 9, 10, 14, 16] (by decide) rfl rfl (fun H locs hP hD hS => ?_)
          refine lv_ior hx hb dX3_paidOf_67 ?_
          refine lv_istore (lv' := [(6, .int (y6_27 ||| r64)), (0, .ref aG), (1, .int x1), (2, .ref aH), (5, .int y5_27), (7, .int y7_27)]) hx hb dX3_paidOf_68 hl (by decide) rfl (fun ls hl => ?_)
          refine lv_iinc (v := (y7_27 + 1)) (lv' := [(7, .int (y7_27 + 1)), (6, .int (y6_27 ||| r64)), (0, .ref aG), (1, .int x1), (2, .ref aH), (5, .int y5_27)]) hx hb dX3_paidOf_70 hl (k := 5) rfl (by first | rfl | decide) (by decide) rfl (fun ls hl => ?_)
          refine lv_goto (tgt := 27) hx hb dX3_paidOf_73 (by decide) ?_
          exact ih27 y5_27 (y6_27 ||| r64) (y7_27 + 1) vW_cells_51 vW_inFront_51 vW_who_51 vW_51 H locs ls hP hD hS (lv_sub hl [2, 3, 4, 5, 1, 0] rfl) (hR27 _ (Option.some.inj hok).symm)
  unfold fX3_paidOf at hok
  obtain ⟨H, hH⟩ : ∃ H, H = s.heap := ⟨_, rfl⟩
  obtain ⟨locs, hlc⟩ : ∃ x : List Loc, x = [] := ⟨_, rfl⟩
  have hP : va_P D vwCl (wX3_paidOf cy aG aH aD qH qU qG qW aH0 qD aH0 vH vU vU_nights vG vW vD vD_now vW_who vH_kinds vW_cells vH_sorts vH_next vW_inFront vH_sizes vH_width vU_things vU_cells) H := by rw [hH]; exact hP
  have hS : va_S A s.heap H locs := by rw [hH, hlc]; exact hS
  rw [show W p l e _ s m _ below meth c s.heap [] = W p l e _ s m _ below meth c H locs from by rw [hH, hlc]]
  refine lv_aload_n hx hb dX3_paidOf_0 rfl (lv_at hl 2 rfl) ?_
  refine va_get (D := D) (ci := 3) (v := .ref (qH 7)) (C := RX4) (T := TX4) (N := 20) hx hb ht0 niX4 hown hK hP 0 rfl rfl 7 (by decide) (ht0 _ wd214) (fun _ h9 => h9) rfl dX3_paidOf_1 ?_
  refine lv_iload_n hx hb dX3_paidOf_4 rfl (lv_at hl 1 rfl) ?_
  obtain ⟨r5, hc5, hok⟩ := k_bind hok
  refine kCi (wc := (wX7_lastNightOf cy (qH 7) qU vU vU_nights)) (wc2 := (wX7_lastNightOf cy (qH 7) qU vU vU_nights)) (wr := [(aH, oX4 vH qH), (aG, oX3 vG qG), (qG 0, oX6 vW qW aH0), (aD, oX1 vD qD), (qD 0, rI cy 9 vD_now), (qW 1, rI cy 36 vW_who), (qH 14, rI cy 7 vH_kinds), (qW 0, rI cy 7 vW_cells), (qH 8, rI cy 4 vH_sorts), (qH 10, rI cy 36 vH_next), (qW 2, rI cy 7 vW_inFront), (qH 15, rI cy 7 vH_sizes), (qH 11, rI cy 36 vH_width), (qU 1, rI cy 6 vU_things), (qU 2, rI cy 6 vU_cells)]) (ws2 := (wX3_paidOf cy aG aH aD qH qU qG qW aH0 qD aH0 vH vU vU_nights vG vW vD vD_now vW_who vH_kinds vW_cells vH_sorts vH_next vW_inFront vH_sizes vH_width vU_things vU_cells)) (kRunV (As := [.int x1]) (rest := []) ⟨hx, hb, hml, hown, ht0⟩ (kX7_lastNightOf l D cy _ (qH 7) qU vU vU_nights x1 r5 hc5 _ rfl) (cwV 1 ht0 (gV wd220 wd221 wd222 wd218 wd223) rfl rfl rfl (by decide +kernel) ⟨Nat.le_of_ble_eq_true rfl, Nat.le_of_ble_eq_true rfl⟩) hK hN hP hD [1, 2] rfl (by decide) 1 6 rfl rfl rfl hl.1 rfl (Nat.le_of_ble_eq_true rfl) dX3_paidOf_5 ⟨Nat.zero_le _, Nat.zero_le _⟩) hP hD hS hA [1, 2] [0, 3, 4, 5, 6, 7, 8, 9, 10, 11, 12, 13, 14, 15, 16] rfl rfl (by decide) (by decide) [0, 15, 16, 1, 2, 3, 4, 5, 6, 7, 8, 9, 10, 11, 12, 13, 14] (by decide) rfl rfl (fun H locs hP hD hS => ?_)
  refine lv_istore (lv' := [(5, .int r5), (0, .ref aG), (1, .int x1), (2, .ref aH), (3, .ref aD), (4, .int x4)]) hx hb dX3_paidOf_8 hl (by decide) rfl (fun ls hl => ?_)
  refine lv_iconst (v := 0) hx hb dX3_paidOf_10 (by decide) ?_
  refine lv_istore (lv' := [(6, .int 0), (5, .int r5), (0, .ref aG), (1, .int x1), (2, .ref aH), (3, .ref aD), (4, .int x4)]) hx hb dX3_paidOf_11 hl (by decide) rfl (fun ls hl => ?_)
  refine lv_aload_n hx hb dX3_paidOf_13 rfl (lv_at hl 2 rfl) ?_
  refine va_get (D := D) (ci := 2) (v := .ref (qG 0)) (C := RX3) (T := TX3) (N := 1) hx hb ht0 niX3 hown hK hP 3 rfl rfl 0 (by decide) (ht0 _ wd170) (fun _ h9 => h9) rfl dX3_paidOf_14 ?_
  refine lv_aload_n hx hb dX3_paidOf_17 rfl (lv_at hl 4 rfl) ?_
  refine lv_aload_n hx hb dX3_paidOf_18 rfl (lv_at hl 5 rfl) ?_
  refine lv_iload hx hb dX3_paidOf_19 (lv_at hl 6 rfl) ?_
  obtain ⟨⟨vW_21, vW_who_21, vW_cells_21⟩, hc21, hok⟩ := k_bind hok
  try dsimp only at hok
  refine kCv (wc := (wX6_start cy (qG 0) aH aD qW aH0 qD qH aH0 vW vD vD_now vW_who vH vH_kinds vW_cells vH_sorts)) (wc2 := (wX6_start cy (qG 0) aH aD qW aH0 qD qH aH vW_21 vD vD_now vW_who_21 vH vH_kinds vW_cells_21 vH_sorts)) (wr := [(qH 7, oX7 vU qU), (qU 3, rI cy 6 vU_nights), (aG, oX3 vG qG), (qH 10, rI cy 36 vH_next), (qW 2, rI cy 7 vW_inFront), (qH 15, rI cy 7 vH_sizes), (qH 11, rI cy 36 vH_width), (qU 1, rI cy 6 vU_things), (qU 2, rI cy 6 vU_cells)]) (ws2 := (wX3_paidOf cy aG aH aD qH qU qG qW aH0 qD aH vH vU vU_nights vG vW_21 vD vD_now vW_who_21 vH_kinds vW_cells_21 vH_sorts vH_next vW_inFront vH_sizes vH_width vU_things vU_cells)) (kRunV (As := [.ref aH, .ref aD, .int x4]) (rest := []) ⟨hx, hb, hml, hown, ht0⟩ (kX6_start l D cy _ (qG 0) aH aD qW aH0 qD qH vW vD vD_now vW_who vH vH_kinds vW_cells vH_sorts x4 vW_21 vW_who_21 vW_cells_21 hc21 _ rfl) (cwV 3 ht0 (gV wd180 wd181 wd182 wd114 wd183) rfl rfl rfl (by decide +kernel) ⟨Nat.le_of_ble_eq_true rfl, Nat.le_of_ble_eq_true rfl⟩) hK hN hP hD [4, 5, 6, 7, 0, 8, 9, 10] rfl (by decide) 4 5 rfl rfl rfl hl.1 rfl (Nat.le_of_ble_eq_true rfl) dX3_paidOf_21 ⟨Nat.zero_le _, Nat.zero_le _⟩) hP hD hS hA [4, 5, 6, 7, 0, 8, 9, 10] [1, 2, 3, 11, 12, 13, 14, 15, 16] rfl rfl (by decide) (by decide) [13, 0, 1, 2, 9, 10, 11, 12, 14, 15, 16, 3, 4, 5, 6, 7, 8] (by decide) rfl rfl (fun H locs hP hD hS => ?_)
  refine lv_iconst (v := 0) hx hb dX3_paidOf_24 (by decide) ?_
  refine lv_istore (lv' := [(7, .int 0), (6, .int 0), (5, .int r5), (0, .ref aG), (1, .int x1), (2, .ref aH), (3, .ref aD), (4, .int x4)]) hx hb dX3_paidOf_25 hl (by decide) rfl (fun ls hl => ?_)
  exact L27 5000 r5 (0 : Int32) (0 : Int32) vW_cells_21 vW_inFront vW_who_21 vW_21 H locs ls hP hD hS (lv_sub hl [3, 4, 5, 2, 1, 0] rfl) hok
def wsX3_bestInRing : List Cond := .code yX3_bestInRing cX3_bestInRing 12 (some .int) :: W0
abbrev wX3_bestInRing (cy : Nat → ClassId) (aG : Nat) (aH : Nat) (aD : Nat) (qH : Nat → Nat) (qU : Nat → Nat) (qD : Nat → Nat) (qG : Nat → Nat) (qW : Nat → Nat) (aH0 : Nat) (fvW_4 : Nat) (vH : Nat → Int32) (vU : Nat → Int32) (vU_worths : Nat → Int32) (vD : Nat → Int32) (vD_now : Nat → Int32) (vH_kinds : Nat → Int32) (vU_nights : Nat → Int32) (vG : Nat → Int32) (vW : Nat → Int32) (vW_who : Nat → Int32) (vW_cells : Nat → Int32) (vH_sorts : Nat → Int32) (vH_next : Nat → Int32) (vW_inFront : Nat → Int32) (vH_sizes : Nat → Int32) (vH_width : Nat → Int32) (vU_things : Nat → Int32) (vU_cells : Nat → Int32) : va_W := [(aH, oX4 vH qH), (qH 7, oX7 vU qU), (qU 4, rI cy 6 vU_worths), (aD, oX1 vD qD), (qD 0, rI cy 9 vD_now), (qH 14, rI cy 7 vH_kinds), (qU 3, rI cy 6 vU_nights), (aG, oX3 vG qG), (qG 0, oX6 vW qW fvW_4), (qW 1, rI cy 36 vW_who), (qW 0, rI cy 7 vW_cells), (qH 8, rI cy 4 vH_sorts), (qH 10, rI cy 36 vH_next), (qW 2, rI cy 7 vW_inFront), (qH 15, rI cy 7 vH_sizes), (qH 11, rI cy 36 vH_width), (qU 1, rI cy 6 vU_things), (qU 2, rI cy 6 vU_cells)]
set_option maxHeartbeats 4000000 in
set_option maxRecDepth 100000 in
theorem kX3_bestInRing (l : Launch) (D : va_G) (cy : Nat → ClassId) (sz : Nat) (aG : Nat) (aH : Nat) (aD : Nat) (qH : Nat → Nat) (qU : Nat → Nat) (qD : Nat → Nat) (qG : Nat → Nat) (qW : Nat → Nat) (aH0 : Nat) (vH : Nat → Int32) (vU : Nat → Int32) (vU_worths : Nat → Int32) (vD : Nat → Int32) (vD_now : Nat → Int32) (vH_kinds : Nat → Int32) (vU_nights : Nat → Int32) (vG : Nat → Int32) (vW : Nat → Int32) (vW_who : Nat → Int32) (vW_cells : Nat → Int32) (vH_sorts : Nat → Int32) (vH_next : Nat → Int32) (vW_inFront : Nat → Int32) (vH_sizes : Nat → Int32) (vH_width : Nat → Int32) (vU_things : Nat → Int32) (vU_cells : Nat → Int32) (x3 : Int32) (x4 : Int32) (zr : Int32) (z_vW : Nat → Int32) (z_vW_who : Nat → Int32) (z_vW_cells : Nat → Int32) (z_vW_inFront : Nat → Int32) (z_aH0 : Nat) (hok : fX3_bestInRing aH aH0 vH vU vU_worths vD vD_now vH_kinds vU_nights vG vW vW_who vW_cells vH_sorts vH_next vW_inFront vH_sizes vH_width vU_things vU_cells x3 x4 = some (zr, z_vW, z_vW_who, z_vW_cells, z_vW_inFront, z_aH0)) (A : Nat → Prop) (hAe : va_A (wX3_bestInRing cy aG aH aD qH qU qD qG qW aH0 aH0 vH vU vU_worths vD vD_now vH_kinds vU_nights vG vW vW_who vW_cells vH_sorts vH_next vW_inFront vH_sizes vH_width vU_things vU_cells) sz = A) : Met l yX3_bestInRing wsX3_bestInRing ({ frames := 4, cells := 0, slots := 0, locals := 100 } : Room) (kPre D cy [.ref aG, .ref aH, .ref aD, .int x3, .int x4] (wX3_bestInRing cy aG aH aD qH qU qD qG qW aH0 aH0 vH vU vU_worths vD vD_now vH_kinds vU_nights vG vW vW_who vW_cells vH_sorts vH_next vW_inFront vH_sizes vH_width vU_things vU_cells) sz) (kQi D cy zr A (wX3_bestInRing cy aG aH aD qH qU qD qG qW aH0 z_aH0 vH vU vU_worths vD vD_now vH_kinds vU_nights vG z_vW z_vW_who z_vW_cells vH_sorts vH_next z_vW_inFront vH_sizes vH_width vU_things vU_cells)) 0 0 A := by
  refine Met.ofW (cc := cX3_bestInRing) (maxL := 12) (ret := (some .int)) (by decide) rfl ?_
  intro p e s m args below meth c s₁ B hml hv
  obtain ⟨rfl, hsz, hP, hK, hD0, hN⟩ := hv
  have hx := B.exec
  have hb := B.bytes
  have hr := B.returns
  have ht0 : ∀ w ∈ W0, w.before _ s = true := fun w h => atoms_spec (ws := wsX3_bestInRing) B.pre w (List.mem_cons_of_mem _ h)
  have hown : s.vm.findClass RX3 = some m.cls := findClass_of_methodNamed B.named
  have hlocks := B.notSynchronized
  subst hsz
  have hD : va_D A (wX3_bestInRing cy aG aH aD qH qU qD qG qW aH0 aH0 vH vU vU_worths vD vD_now vH_kinds vU_nights vG vW vW_who vW_cells vH_sorts vH_next vW_inFront vH_sizes vH_width vU_things vU_cells) := by rw [← hAe]; exact hD0.self
  have hA : ∀ q : Nat, s.heap.size ≤ q → A q := fun q h => by rw [← hAe]; exact Or.inr h
  have hS : va_S A s.heap s.heap [] := va_S.rf
  have hl := lv_entry ([.ref aG, .ref aH, .ref aD, .int x3, .int x4]) (n := 12) (Nat.le_of_ble_eq_true rfl)
  rw [lg_entry_eq]
  generalize (lg_sl ([.ref aG, .ref aH, .ref aD, .int x3, .int x4]) ++ List.replicate (12 - (lg_sl ([.ref aG, .ref aH, .ref aD, .int x3, .int x4])).length) Slot.unset).toArray = ls at hl ⊢
  have hl : lv_has ls 12 [(0, .ref aG), (1, .ref aH), (2, .ref aD), (3, .int x3), (4, .int x4)] := hl
  generalize hQe : MQ below (kQi D cy zr A (wX3_bestInRing cy aG aH aD qH qU qD qG qW aH0 z_aH0 vH vU vU_worths vD vD_now vH_kinds vU_nights vG z_vW z_vW_who z_vW_cells vH_sorts vH_next z_vW_inFront vH_sizes vH_width vU_things vU_cells)) ([.ref aG, .ref aH, .ref aD, .int x3, .int x4] : List Value).toArray s 0 0 A = Q
  have L30 : ∀ (fuel : Nat) (y5_30 : Int32) (y6_30 : Int32) (y7_30 : Int32) (y8_30 : Int32) (y9_30 : Int32) (vW_cells_30 : Nat → Int32) (vW_inFront_30 : Nat → Int32) (vW_who_30 : Nat → Int32) (vW_4_30 : Nat) (vW_30 : Nat → Int32), ∀ (H : Heap) (locs : List Loc) (ls : Array Slot), va_P D vwCl (wX3_bestInRing cy aG aH aD qH qU qD qG qW aH0 vW_4_30 vH vU vU_worths vD vD_now vH_kinds vU_nights vG vW_30 vW_who_30 vW_cells_30 vH_sorts vH_next vW_inFront_30 vH_sizes vH_width vU_things vU_cells) H → va_D A (wX3_bestInRing cy aG aH aD qH qU qD qG qW aH0 vW_4_30 vH vU vU_worths vD vD_now vH_kinds vU_nights vG vW_30 vW_who_30 vW_cells_30 vH_sorts vH_next vW_inFront_30 vH_sizes vH_width vU_things vU_cells) → va_S A s.heap H locs → lv_has ls 12 [(0, .ref aG), (1, .ref aH), (2, .ref aD), (3, .int x3), (5, .int y5_30), (6, .int y6_30), (7, .int y7_30), (8, .int y8_30), (9, .int y9_30)] → lp (fX3_bestInRing_B30 aH vH vU vU_worths vD vD_now vH_kinds vU_nights vG vH_sorts vH_next vH_sizes vH_width vU_things vU_cells x3) fuel (y5_30, y6_30, y7_30, y8_30, y9_30, vW_cells_30, vW_inFront_30, vW_who_30, vW_4_30, vW_30) = some (zr, z_vW, z_vW_who, z_vW_cells, z_vW_inFront, z_aH0) → W p l e ({ frames := 4, cells := 0, slots := 0, locals := 100 } : Room) s m ([.ref aG, .ref aH, .ref aD, .int x3, .int x4] : List Value).toArray below meth c H locs 0 0 Q (F0 m 30 ls []) := by
    intro fuel
    induction fuel with
    | zero => intro y5_30 y6_30 y7_30 y8_30 y9_30 vW_cells_30 vW_inFront_30 vW_who_30 vW_4_30 vW_30 H locs ls hP hD hS hl hok; exact (lp_0 hok).elim
    | succ fuel ih30 =>
      intro y5_30 y6_30 y7_30 y8_30 y9_30 vW_cells_30 vW_inFront_30 vW_who_30 vW_4_30 vW_30 H locs ls hP hD hS hl hok
      obtain ⟨y30, hok, hL30, hR30⟩ := lp_step hok
      have J108 : ∀ (y7_108 : Int32) (y8_108 : Int32) (vW_cells_108 : Nat → Int32) (vW_inFront_108 : Nat → Int32) (vW_who_108 : Nat → Int32) (vW_4_108 : Nat) (vW_108 : Nat → Int32), ∀ (H : Heap) (locs : List Loc) (ls : Array Slot), va_P D vwCl (wX3_bestInRing cy aG aH aD qH qU qD qG qW aH0 vW_4_108 vH vU vU_worths vD vD_now vH_kinds vU_nights vG vW_108 vW_who_108 vW_cells_108 vH_sorts vH_next vW_inFront_108 vH_sizes vH_width vU_things vU_cells) H → va_D A (wX3_bestInRing cy aG aH aD qH qU qD qG qW aH0 vW_4_108 vH vU vU_worths vD vD_now vH_kinds vU_nights vG vW_108 vW_who_108 vW_cells_108 vH_sorts vH_next vW_inFront_108 vH_sizes vH_width vU_things vU_cells) → va_S A s.heap H locs → lv_has ls 12 [(0, .ref aG), (1, .ref aH), (2, .ref aD), (3, .int x3), (5, .int y5_30), (6, .int y6_30), (7, .int y7_108), (8, .int y8_108), (9, .int y9_30)] → fX3_bestInRing_J108 y5_30 y6_30 y9_30 y7_108 y8_108 vW_cells_108 vW_inFront_108 vW_who_108 vW_4_108 vW_108 = some y30 → W p l e ({ frames := 4, cells := 0, slots := 0, locals := 100 } : Room) s m ([.ref aG, .ref aH, .ref aD, .int x3, .int x4] : List Value).toArray below meth c H locs 0 0 Q (F0 m 108 ls []) := by
        intro y7_108 y8_108 vW_cells_108 vW_inFront_108 vW_who_108 vW_4_108 vW_108 H locs ls hP hD hS hl hok
        unfold fX3_bestInRing_J108 at hok
        refine lv_iinc (v := (y9_30 + 1)) (lv' := [(9, .int (y9_30 + 1)), (0, .ref aG), (1, .ref aH), (2, .ref aD), (3, .int x3), (5, .int y5_30), (6, .int y6_30), (7, .int y7_108), (8, .int y8_108)]) hx hb dX3_bestInRing_108 hl (k := 8) rfl (by first | rfl | decide) (by decide) rfl (fun ls hl => ?_)
        refine lv_goto (tgt := 30) hx hb dX3_bestInRing_111 (by decide) ?_
        exact ih30 y5_30 y6_30 y7_108 y8_108 (y9_30 + 1) vW_cells_108 vW_inFront_108 vW_who_108 vW_4_108 vW_108 H locs ls hP hD hS (lv_sub hl [1, 2, 3, 4, 5, 6, 7, 8, 0] rfl) (hR30 _ (Option.some.inj hok).symm)
      have L43 : ∀ (fuel : Nat) (y7_43 : Int32) (y8_43 : Int32) (y10_43 : Int32) (vW_cells_43 : Nat → Int32) (vW_inFront_43 : Nat → Int32) (vW_who_43 : Nat → Int32) (vW_4_43 : Nat) (vW_43 : Nat → Int32), ∀ (H : Heap) (locs : List Loc) (ls : Array Slot), va_P D vwCl (wX3_bestInRing cy aG aH aD qH qU qD qG qW aH0 vW_4_43 vH vU vU_worths vD vD_now vH_kinds vU_nights vG vW_43 vW_who_43 vW_cells_43 vH_sorts vH_next vW_inFront_43 vH_sizes vH_width vU_things vU_cells) H → va_D A (wX3_bestInRing cy aG aH aD qH qU qD qG qW aH0 vW_4_43 vH vU vU_worths vD vD_now vH_kinds vU_nights vG vW_43 vW_who_43 vW_cells_43 vH_sorts vH_next vW_inFront_43 vH_sizes vH_width vU_things vU_cells) → va_S A s.heap H locs → lv_has ls 12 [(0, .ref aG), (1, .ref aH), (2, .ref aD), (3, .int x3), (5, .int y5_30), (6, .int y6_30), (7, .int y7_43), (8, .int y8_43), (9, .int y9_30), (10, .int y10_43)] → lp (fX3_bestInRing_B43 aH vH vU vU_worths vD vD_now vH_kinds vU_nights vG vH_sorts vH_next vH_sizes vH_width vU_things vU_cells x3 y5_30 y6_30 y9_30) fuel (y7_43, y8_43, y10_43, vW_cells_43, vW_inFront_43, vW_who_43, vW_4_43, vW_43) = some y30 → W p l e ({ frames := 4, cells := 0, slots := 0, locals := 100 } : Room) s m ([.ref aG, .ref aH, .ref aD, .int x3, .int x4] : List Value).toArray below meth c H locs 0 0 Q (F0 m 43 ls []) := by
        intro fuel
        induction fuel with
        | zero => intro y7_43 y8_43 y10_43 vW_cells_43 vW_inFront_43 vW_who_43 vW_4_43 vW_43 H locs ls hP hD hS hl hok; exact (lp_0 hok).elim
        | succ fuel ih43 =>
          intro y7_43 y8_43 y10_43 vW_cells_43 vW_inFront_43 vW_who_43 vW_4_43 vW_43 H locs ls hP hD hS hl hok
          obtain ⟨y43, hok, hL43, hR43⟩ := lp_step hok
          have J102 : ∀ (y7_102 : Int32) (y8_102 : Int32) (vW_cells_102 : Nat → Int32) (vW_inFront_102 : Nat → Int32) (vW_who_102 : Nat → Int32) (vW_4_102 : Nat) (vW_102 : Nat → Int32), ∀ (H : Heap) (locs : List Loc) (ls : Array Slot), va_P D vwCl (wX3_bestInRing cy aG aH aD qH qU qD qG qW aH0 vW_4_102 vH vU vU_worths vD vD_now vH_kinds vU_nights vG vW_102 vW_who_102 vW_cells_102 vH_sorts vH_next vW_inFront_102 vH_sizes vH_width vU_things vU_cells) H → va_D A (wX3_bestInRing cy aG aH aD qH qU qD qG qW aH0 vW_4_102 vH vU vU_worths vD vD_now vH_kinds vU_nights vG vW_102 vW_who_102 vW_cells_102 vH_sorts vH_next vW_inFront_102 vH_sizes vH_width vU_things vU_cells) → va_S A s.heap H locs → lv_has ls 12 [(0, .ref aG), (1, .ref aH), (2, .ref aD), (3, .int x3), (5, .int y5_30), (6, .int y6_30), (7, .int y7_102), (8, .int y8_102), (9, .int y9_30), (10, .int y10_43)] → fX3_bestInRing_J102 y10_43 y7_102 y8_102 vW_cells_102 vW_inFront_102 vW_who_102 vW_4_102 vW_102 = some y43 → W p l e ({ frames := 4, cells := 0, slots := 0, locals := 100 } : Room) s m ([.ref aG, .ref aH, .ref aD, .int x3, .int x4] : List Value).toArray below meth c H locs 0 0 Q (F0 m 102 ls []) := by
            intro y7_102 y8_102 vW_cells_102 vW_inFront_102 vW_who_102 vW_4_102 vW_102 H locs ls hP hD hS hl hok
            unfold fX3_bestInRing_J102 at hok
            refine lv_iinc (v := (y10_43 + 1)) (lv' := [(10, .int (y10_43 + 1)), (0, .ref aG), (1, .ref aH), (2, .ref aD), (3, .int x3), (5, .int y5_30), (6, .int y6_30), (7, .int y7_102), (8, .int y8_102), (9, .int y9_30)]) hx hb dX3_bestInRing_102 hl (k := 9) rfl (by first | rfl | decide) (by decide) rfl (fun ls hl => ?_)
            refine lv_goto (tgt := 43) hx hb dX3_bestInRing_105 (by decide) ?_
            exact ih43 y7_102 y8_102 (y10_43 + 1) vW_cells_102 vW_inFront_102 vW_who_102 vW_4_102 vW_102 H locs ls hP hD hS (lv_sub hl [1, 2, 3, 4, 5, 6, 7, 8, 9, 0] rfl) (hR43 _ (Option.some.inj hok).symm)
          unfold fX3_bestInRing_B43 at hok
          try dsimp only at hok
          refine lv_iload hx hb dX3_bestInRing_43 (lv_at hl 9 rfl) ?_
          refine lv_iload hx hb dX3_bestInRing_45 (lv_at hl 5 rfl) ?_
          refine lv_icmp_gt (tgt := 108) hx hb dX3_bestInRing_47 (by decide) (fun c47 => ?_) (fun c47 => ?_)
          · have hok := k_pos c47 hok
            obtain ⟨e43, hok, he43⟩ := ex_some hok
            have hok := hok.trans (congrArg some (hL43 _ he43))
            exact J108 y7_43 y8_43 vW_cells_43 vW_inFront_43 vW_who_43 vW_4_43 vW_43 H locs ls hP hD hS (lv_sub hl [0, 1, 2, 3, 4, 5, 6, 7, 8] rfl) hok
          · have hok := k_neg c47 hok
            refine lv_iload hx hb dX3_bestInRing_50 (lv_at hl 6 rfl) ?_
            refine lv_iload hx hb dX3_bestInRing_52 (lv_at hl 4 rfl) ?_
            refine lv_icmp_ge (tgt := 108) hx hb dX3_bestInRing_54 (by decide) (fun c54 => ?_) (fun c54 => ?_)
            · have hok := k_pos c54 hok
              obtain ⟨e43, hok, he43⟩ := ex_some hok
              have hok := hok.trans (congrArg some (hL43 _ he43))
              exact J108 y7_43 y8_43 vW_cells_43 vW_inFront_43 vW_who_43 vW_4_43 vW_43 H locs ls hP hD hS (lv_sub hl [0, 1, 2, 3, 4, 5, 6, 7, 8] rfl) hok
            · have hok := k_neg c54 hok
              refine lv_iload hx hb dX3_bestInRing_57 (lv_at hl 9 rfl) ?_
              refine lv_iload hx hb dX3_bestInRing_59 (lv_at hl 8 rfl) ?_
              refine lv_iload hx hb dX3_bestInRing_61 (lv_at hl 5 rfl) ?_
              obtain ⟨r63, hc63, hok⟩ := k_bind hok
              refine kCi (wc := (wX3_isOfThese cy )) (wc2 := (wX3_isOfThese cy )) (wr := [(aH, oX4 vH qH), (qH 7, oX7 vU qU), (qU 4, rI cy 6 vU_worths), (aD, oX1 vD qD), (qD 0, rI cy 9 vD_now), (qH 14, rI cy 7 vH_kinds), (qU 3, rI cy 6 vU_nights), (aG, oX3 vG qG), (qG 0, oX6 vW_43 qW vW_4_43), (qW 1, rI cy 36 vW_who_43), (qW 0, rI cy 7 vW_cells_43), (qH 8, rI cy 4 vH_sorts), (qH 10, rI cy 36 vH_next), (qW 2, rI cy 7 vW_inFront_43), (qH 15, rI cy 7 vH_sizes), (qH 11, rI cy 36 vH_width), (qU 1, rI cy 6 vU_things), (qU 2, rI cy 6 vU_cells)]) (ws2 := (wX3_bestInRing cy aG aH aD qH qU qD qG qW aH0 vW_4_43 vH vU vU_worths vD vD_now vH_kinds vU_nights vG vW_43 vW_who_43 vW_cells_43 vH_sorts vH_next vW_inFront_43 vH_sizes vH_width vU_things vU_cells)) (kRunS (As := [.int y10_43, .int y9_30, .int y6_30]) (rest := []) ⟨hx, hb, hml, hown, ht0⟩ (kX3_isOfThese l D cy _ y10_43 y9_30 y6_30 r63 hc63 _ rfl) (va_cwS 3 ht0 (gS wd176 wd177 wd178 wd179) rfl rfl rfl (by decide +kernel) ⟨Nat.le_of_ble_eq_true rfl, Nat.le_of_ble_eq_true rfl⟩) hK hN hP hD [] rfl (by decide) rfl hl.1 rfl (Nat.le_of_ble_eq_true rfl) dX3_bestInRing_63 ⟨Nat.zero_le _, Nat.zero_le _⟩) hP hD hS hA [] [0, 1, 2, 3, 4, 5, 6, 7, 8, 9, 10, 11, 12, 13, 14, 15, 16, 17] rfl rfl (by decide) (by decide) [0, 1, 2, 3, 4, 5, 6, 7, 8, 9, 10, 11, 12, 13, 14, 15, 16, 17] (by decide) rfl rfl (fun H locs hP hD hS => ?_)
              refine lv_if_eq (tgt := 102) hx hb dX3_bestInRing_66 (by decide) (fun c66 => ?_) (fun c66 => ?_)
              · have hok := k_pos c66 hok
                exact J102 y7_43 y8_43 vW_cells_43 vW_inFront_43 vW_who_43 vW_4_43 vW_43 H locs ls hP hD hS (lv_sub hl [0, 1, 2, 3, 4, 5, 6, 7, 8, 9] rfl) hok
              · have hok := k_neg c66 hok
                refine lv_aload_n hx hb dX3_bestInRing_69 rfl (lv_at hl 1 rfl) ?_
                refine va_get (D := D) (ci := 3) (v := .ref (qH 7)) (C := RX4) (T := TX4) (N := 20) hx hb ht0 niX4 hown hK hP 0 rfl rfl 7 (by decide) (ht0 _ wd214) (fun _ h9 => h9) rfl dX3_bestInRing_70 ?_
                refine lv_aload_n hx hb dX3_bestInRing_73 rfl (lv_at hl 0 rfl) ?_
                refine lv_iload_n hx hb dX3_bestInRing_74 rfl (lv_at hl 3 rfl) ?_
                refine lv_aload_n hx hb dX3_bestInRing_75 rfl (lv_at hl 1 rfl) ?_
                refine lv_aload_n hx hb dX3_bestInRing_76 rfl (lv_at hl 2 rfl) ?_
                refine lv_iload hx hb dX3_bestInRing_77 (lv_at hl 9 rfl) ?_
                obtain ⟨⟨r79, vW_79, vW_who_79, vW_cells_79, vW_inFront_79⟩, hc79, hok⟩ := k_bind hok
                try dsimp only at hok
                refine kCi (wc := (wX3_paidOf cy aG aH aD qH qU qG qW vW_4_43 qD vW_4_43 vH vU vU_nights vG vW_43 vD vD_now vW_who_43 vH_kinds vW_cells_43 vH_sorts vH_next vW_inFront_43 vH_sizes vH_width vU_things vU_cells)) (wc2 := (wX3_paidOf cy aG aH aD qH qU qG qW vW_4_43 qD aH vH vU vU_nights vG vW_79 vD vD_now vW_who_79 vH_kinds vW_cells_79 vH_sorts vH_next vW_inFront_79 vH_sizes vH_width vU_things vU_cells)) (wr := [(qU 4, rI cy 6 vU_worths)]) (ws2 := (wX3_bestInRing cy aG aH aD qH qU qD qG qW aH0 aH vH vU vU_worths vD vD_now vH_kinds vU_nights vG vW_79 vW_who_79 vW_cells_79 vH_sorts vH_next vW_inFront_79 vH_sizes vH_width vU_things vU_cells)) (kRunV (As := [.int x3, .ref aH, .ref aD, .int y10_43]) (rest := [.ref (qH 7)]) ⟨hx, hb, hml, hown, ht0⟩ (kX3_paidOf l D cy _ aG aH aD qH qU qG qW vW_4_43 qD vH vU vU_nights vG vW_43 vD vD_now vW_who_43 vH_kinds vW_cells_43 vH_sorts vH_next vW_inFront_43 vH_sizes vH_width vU_things vU_cells x3 y10_43 r79 vW_79 vW_who_79 vW_cells_79 vW_inFront_79 hc79 _ rfl) (cwV 4 ht0 (gV wd224 wd225 wd226 wd178 wd227) rfl rfl rfl (by decide +kernel) ⟨Nat.le_of_ble_eq_true rfl, Nat.le_of_ble_eq_true rfl⟩) hK hN hP hD [0, 1, 6, 7, 8, 3, 4, 9, 5, 10, 11, 12, 13, 14, 15, 16, 17] rfl (by decide) 7 2 rfl rfl rfl hl.1 rfl (Nat.le_of_ble_eq_true rfl) dX3_bestInRing_79 ⟨Nat.zero_le _, Nat.zero_le _⟩) hP hD hS hA [0, 1, 6, 7, 8, 3, 4, 9, 5, 10, 11, 12, 13, 14, 15, 16, 17] [2] rfl rfl (by decide) (by decide) [1, 2, 0, 6, 7, 9, 3, 4, 5, 8, 10, 11, 12, 13, 14, 15, 16, 17] (by decide) rfl rfl (fun H locs hP hD hS => ?_)
                obtain ⟨r82, hc82, hok⟩ := k_bind hok
                refine kCi (wc := (wX7_worthOf cy (qH 7) qU vU vU_worths)) (wc2 := (wX7_worthOf cy (qH 7) qU vU vU_worths)) (wr := [(aH, oX4 vH qH), (aD, oX1 vD qD), (qD 0, rI cy 9 vD_now), (qH 14, rI cy 7 vH_kinds), (qU 3, rI cy 6 vU_nights), (aG, oX3 vG qG), (qG 0, oX6 vW_79 qW aH), (qW 1, rI cy 36 vW_who_79), (qW 0, rI cy 7 vW_cells_79), (qH 8, rI cy 4 vH_sorts), (qH 10, rI cy 36 vH_next), (qW 2, rI cy 7 vW_inFront_79), (qH 15, rI cy 7 vH_sizes), (qH 11, rI cy 36 vH_width), (qU 1, rI cy 6 vU_things), (qU 2, rI cy 6 vU_cells)]) (ws2 := (wX3_bestInRing cy aG aH aD qH qU qD qG qW aH0 aH vH vU vU_worths vD vD_now vH_kinds vU_nights vG vW_79 vW_who_79 vW_cells_79 vH_sorts vH_next vW_inFront_79 vH_sizes vH_width vU_things vU_cells)) (kRunV (As := [.int r79]) (rest := []) ⟨hx, hb, hml, hown, ht0⟩ (kX7_worthOf l D cy _ (qH 7) qU vU vU_worths r79 r82 hc82 _ rfl) (cwV 1 ht0 (gV wd228 wd229 wd230 wd218 wd231) rfl rfl rfl (by decide +kernel) ⟨Nat.le_of_ble_eq_true rfl, Nat.le_of_ble_eq_true rfl⟩) hK hN hP hD [1, 2] rfl (by decide) 1 6 rfl rfl rfl hl.1 rfl (Nat.le_of_ble_eq_true rfl) dX3_bestInRing_82 ⟨Nat.zero_le _, Nat.zero_le _⟩) hP hD hS hA [1, 2] [0, 3, 4, 5, 6, 7, 8, 9, 10, 11, 12, 13, 14, 15, 16, 17] rfl rfl (by decide) (by decide) [0, 16, 17, 1, 2, 3, 4, 5, 6, 7, 8, 9, 10, 11, 12, 13, 14, 15] (by decide) rfl rfl (fun H locs hP hD hS => ?_)
                refine lv_istore (lv' := [(11, .int r82), (0, .ref aG), (1, .ref aH), (2, .ref aD), (3, .int x3), (5, .int y5_30), (6, .int y6_30), (7, .int y7_43), (8, .int y8_43), (9, .int y9_30), (10, .int y10_43)]) hx hb dX3_bestInRing_85 hl (by decide) rfl (fun ls hl => ?_)
                refine lv_iload hx hb dX3_bestInRing_87 (lv_at hl 0 rfl) ?_
                refine lv_iload hx hb dX3_bestInRing_89 (lv_at hl 7 rfl) ?_
                refine lv_icmp_le (tgt := 102) hx hb dX3_bestInRing_91 (by decide) (fun c91 => ?_) (fun c91 => ?_)
                · have hok := k_pos c91 hok
                  exact J102 y7_43 y8_43 vW_cells_79 vW_inFront_79 vW_who_79 aH vW_79 H locs ls hP hD hS (lv_sub hl [1, 2, 3, 4, 5, 6, 7, 8, 9, 10] rfl) hok
                · have hok := k_neg c91 hok
                  refine lv_iload hx hb dX3_bestInRing_94 (lv_at hl 0 rfl) ?_
                  refine lv_istore (lv' := [(7, .int r82), (11, .int r82), (0, .ref aG), (1, .ref aH), (2, .ref aD), (3, .int x3), (5, .int y5_30), (6, .int y6_30), (8, .int y8_43), (9, .int y9_30), (10, .int y10_43)]) hx hb dX3_bestInRing_96 hl (by decide) rfl (fun ls hl => ?_)
                  refine lv_iload hx hb dX3_bestInRing_98 (lv_at hl 10 rfl) ?_
                  refine lv_istore (lv' := [(8, .int y10_43), (7, .int r82), (11, .int r82), (0, .ref aG), (1, .ref aH), (2, .ref aD), (3, .int x3), (5, .int y5_30), (6, .int y6_30), (9, .int y9_30), (10, .int y10_43)]) hx hb dX3_bestInRing_100 hl (by decide) rfl (fun ls hl => ?_)
                  exact J102 r82 y10_43 vW_cells_79 vW_inFront_79 vW_who_79 aH vW_79 H locs ls hP hD hS (lv_sub hl [3, 4, 5, 6, 7, 8, 1, 0, 9, 10] rfl) hok
      unfold fX3_bestInRing_B30 at hok
      try dsimp only at hok
      refine lv_iload hx hb dX3_bestInRing_30 (lv_at hl 8 rfl) ?_
      refine lv_iload hx hb dX3_bestInRing_32 (lv_at hl 5 rfl) ?_
      obtain ⟨r34, hc34, hok⟩ := k_bind hok
      refine kCi (wc := (wJ6_bitCount_0f7a4 cy )) (wc2 := (wJ6_bitCount_0f7a4 cy )) (wr := [(aH, oX4 vH qH), (qH 7, oX7 vU qU), (qU 4, rI cy 6 vU_worths), (aD, oX1 vD qD), (qD 0, rI cy 9 vD_now), (qH 14, rI cy 7 vH_kinds), (qU 3, rI cy 6 vU_nights), (aG, oX3 vG qG), (qG 0, oX6 vW_30 qW vW_4_30), (qW 1, rI cy 36 vW_who_30), (qW 0, rI cy 7 vW_cells_30), (qH 8, rI cy 4 vH_sorts), (qH 10, rI cy 36 vH_next), (qW 2, rI cy 7 vW_inFront_30), (qH 15, rI cy 7 vH_sizes), (qH 11, rI cy 36 vH_width), (qU 1, rI cy 6 vU_things), (qU 2, rI cy 6 vU_cells)]) (ws2 := (wX3_bestInRing cy aG aH aD qH qU qD qG qW aH0 vW_4_30 vH vU vU_worths vD vD_now vH_kinds vU_nights vG vW_30 vW_who_30 vW_cells_30 vH_sorts vH_next vW_inFront_30 vH_sizes vH_width vU_things vU_cells)) (kRunS (As := [.int y6_30]) (rest := [.int y9_30]) ⟨hx, hb, hml, hown, ht0⟩ (kJ6_bitCount_0f7a4 l D cy _ y6_30 r34 hc34 _ rfl) (va_cwS 1 ht0 (gS wd88 wd89 wd90 wd91) rfl rfl rfl (by decide +kernel) ⟨Nat.le_of_ble_eq_true rfl, Nat.le_of_ble_eq_true rfl⟩) hK hN hP hD [] rfl (by decide) rfl hl.1 rfl (Nat.le_of_ble_eq_true rfl) dX3_bestInRing_34 ⟨Nat.zero_le _, Nat.zero_le _⟩) hP hD hS hA [] [0, 1, 2, 3, 4, 5, 6, 7, 8, 9, 10, 11, 12, 13, 14, 15, 16, 17] rfl rfl (by decide) (by decide) [0, 1, 2, 3, 4, 5, 6, 7, 8, 9, 10, 11, 12, 13, 14, 15, 16, 17] (by decide) rfl rfl (fun H locs hP hD hS => ?_)
      refine lv_icmp_gt (tgt := 114) hx hb dX3_bestInRing_37 (by decide) (fun c37 => ?_) (fun c37 => ?_)
      · have hok := k_pos c37 hok
        obtain ⟨e30, hok, he30⟩ := ex_some hok
        have hok := hok.trans (congrArg some (hL30 _ he30))
        refine lv_iload hx hb dX3_bestInRing_114 (lv_at hl 7 rfl) ?_
        cases hok
        subst hQe; exact W.iret hx hb hr (fun t ht hW => ⟨⟨_, (), rfl, rfl, by rw [ht]; exact hP, va_K.moved hW.alike hK, hD⟩, hS.F ht⟩) hS.2.2 dX3_bestInRing_116
      · have hok := k_neg c37 hok
        refine lv_iconst (v := 0) hx hb dX3_bestInRing_40 (by decide) ?_
        refine lv_istore (lv' := [(10, .int 0), (0, .ref aG), (1, .ref aH), (2, .ref aD), (3, .int x3), (5, .int y5_30), (6, .int y6_30), (7, .int y7_30), (8, .int y8_30), (9, .int y9_30)]) hx hb dX3_bestInRing_41 hl (by decide) rfl (fun ls hl => ?_)
        exact L43 5000 y7_30 y8_30 (0 : Int32) vW_cells_30 vW_inFront_30 vW_who_30 vW_4_30 vW_30 H locs ls hP hD hS (lv_sub hl [1, 2, 3, 4, 5, 6, 7, 8, 9, 0] rfl) hok
  unfold fX3_bestInRing at hok
  obtain ⟨H, hH⟩ : ∃ H, H = s.heap := ⟨_, rfl⟩
  obtain ⟨locs, hlc⟩ : ∃ x : List Loc, x = [] := ⟨_, rfl⟩
  have hP : va_P D vwCl (wX3_bestInRing cy aG aH aD qH qU qD qG qW aH0 aH0 vH vU vU_worths vD vD_now vH_kinds vU_nights vG vW vW_who vW_cells vH_sorts vH_next vW_inFront vH_sizes vH_width vU_things vU_cells) H := by rw [hH]; exact hP
  have hS : va_S A s.heap H locs := by rw [hH, hlc]; exact hS
  rw [show W p l e _ s m _ below meth c s.heap [] = W p l e _ s m _ below meth c H locs from by rw [hH, hlc]]
  refine lv_aload_n hx hb dX3_bestInRing_0 rfl (lv_at hl 1 rfl) ?_
  refine va_get (D := D) (ci := 3) (v := .ref (qH 7)) (C := RX4) (T := TX4) (N := 20) hx hb ht0 niX4 hown hK hP 0 rfl rfl 7 (by decide) (ht0 _ wd214) (fun _ h9 => h9) rfl dX3_bestInRing_1 ?_
  refine lv_iload_n hx hb dX3_bestInRing_4 rfl (lv_at hl 3 rfl) ?_
  obtain ⟨r5, hc5, hok⟩ := k_bind hok
  refine kCi (wc := (wX7_worthOf cy (qH 7) qU vU vU_worths)) (wc2 := (wX7_worthOf cy (qH 7) qU vU vU_worths)) (wr := [(aH, oX4 vH qH), (aD, oX1 vD qD), (qD 0, rI cy 9 vD_now), (qH 14, rI cy 7 vH_kinds), (qU 3, rI cy 6 vU_nights), (aG, oX3 vG qG), (qG 0, oX6 vW qW aH0), (qW 1, rI cy 36 vW_who), (qW 0, rI cy 7 vW_cells), (qH 8, rI cy 4 vH_sorts), (qH 10, rI cy 36 vH_next), (qW 2, rI cy 7 vW_inFront), (qH 15, rI cy 7 vH_sizes), (qH 11, rI cy 36 vH_width), (qU 1, rI cy 6 vU_things), (qU 2, rI cy 6 vU_cells)]) (ws2 := (wX3_bestInRing cy aG aH aD qH qU qD qG qW aH0 aH0 vH vU vU_worths vD vD_now vH_kinds vU_nights vG vW vW_who vW_cells vH_sorts vH_next vW_inFront vH_sizes vH_width vU_things vU_cells)) (kRunV (As := [.int x3]) (rest := []) ⟨hx, hb, hml, hown, ht0⟩ (kX7_worthOf l D cy _ (qH 7) qU vU vU_worths x3 r5 hc5 _ rfl) (cwV 1 ht0 (gV wd228 wd229 wd230 wd218 wd231) rfl rfl rfl (by decide +kernel) ⟨Nat.le_of_ble_eq_true rfl, Nat.le_of_ble_eq_true rfl⟩) hK hN hP hD [1, 2] rfl (by decide) 1 6 rfl rfl rfl hl.1 rfl (Nat.le_of_ble_eq_true rfl) dX3_bestInRing_5 ⟨Nat.zero_le _, Nat.zero_le _⟩) hP hD hS hA [1, 2] [0, 3, 4, 5, 6, 7, 8, 9, 10, 11, 12, 13, 14, 15, 16, 17] rfl rfl (by decide) (by decide) [0, 16, 17, 1, 2, 3, 4, 5, 6, 7, 8, 9, 10, 11, 12, 13, 14, 15] (by decide) rfl rfl (fun H locs hP hD hS => ?_)
  refine lv_istore (lv' := [(5, .int r5), (0, .ref aG), (1, .ref aH), (2, .ref aD), (3, .int x3), (4, .int x4)]) hx hb dX3_bestInRing_8 hl (by decide) rfl (fun ls hl => ?_)
  refine lv_aload_n hx hb dX3_bestInRing_10 rfl (lv_at hl 2 rfl) ?_
  refine lv_aload_n hx hb dX3_bestInRing_11 rfl (lv_at hl 3 rfl) ?_
  refine lv_iconst (v := 1) hx hb dX3_bestInRing_12 (by decide) ?_
  refine lv_iload hx hb dX3_bestInRing_13 (lv_at hl 5 rfl) ?_
  refine lv_ishl hx hb dX3_bestInRing_15 ?_
  obtain ⟨r16, hc16, hok⟩ := k_bind hok
  refine kCi (wc := (wX3_freeIn cy aH aD qH qD vH vD vD_now vH_kinds)) (wc2 := (wX3_freeIn cy aH aD qH qD vH vD vD_now vH_kinds)) (wr := [(qH 7, oX7 vU qU), (qU 4, rI cy 6 vU_worths), (qU 3, rI cy 6 vU_nights), (aG, oX3 vG qG), (qG 0, oX6 vW qW aH0), (qW 1, rI cy 36 vW_who), (qW 0, rI cy 7 vW_cells), (qH 8, rI cy 4 vH_sorts), (qH 10, rI cy 36 vH_next), (qW 2, rI cy 7 vW_inFront), (qH 15, rI cy 7 vH_sizes), (qH 11, rI cy 36 vH_width), (qU 1, rI cy 6 vU_things), (qU 2, rI cy 6 vU_cells)]) (ws2 := (wX3_bestInRing cy aG aH aD qH qU qD qG qW aH0 aH0 vH vU vU_worths vD vD_now vH_kinds vU_nights vG vW vW_who vW_cells vH_sorts vH_next vW_inFront vH_sizes vH_width vU_things vU_cells)) (kRunS (As := [.ref aH, .ref aD, .int (isl (1 : Int32) x4)]) (rest := []) ⟨hx, hb, hml, hown, ht0⟩ (kX3_freeIn l D cy _ aH aD qH qD vH vD vD_now vH_kinds (isl (1 : Int32) x4) r16 hc16 _ rfl) (va_cwS 3 ht0 (gS wd192 wd193 wd178 wd194) rfl rfl rfl (by decide +kernel) ⟨Nat.le_of_ble_eq_true rfl, Nat.le_of_ble_eq_true rfl⟩) hK hN hP hD [0, 3, 4, 5] rfl (by decide) rfl hl.1 rfl (Nat.le_of_ble_eq_true rfl) dX3_bestInRing_16 ⟨Nat.zero_le _, Nat.zero_le _⟩) hP hD hS hA [0, 3, 4, 5] [1, 2, 6, 7, 8, 9, 10, 11, 12, 13, 14, 15, 16, 17] rfl rfl (by decide) (by decide) [14, 0, 1, 15, 16, 17, 2, 3, 4, 5, 6, 7, 8, 9, 10, 11, 12, 13] (by decide) rfl rfl (fun H locs hP hD hS => ?_)
  refine lv_istore (lv' := [(6, .int r16), (5, .int r5), (0, .ref aG), (1, .ref aH), (2, .ref aD), (3, .int x3), (4, .int x4)]) hx hb dX3_bestInRing_19 hl (by decide) rfl (fun ls hl => ?_)
  refine lv_iconst (v := -1) hx hb dX3_bestInRing_21 (by decide) ?_
  refine lv_istore (lv' := [(7, .int (-1)), (6, .int r16), (5, .int r5), (0, .ref aG), (1, .ref aH), (2, .ref aD), (3, .int x3), (4, .int x4)]) hx hb dX3_bestInRing_22 hl (by decide) rfl (fun ls hl => ?_)
  refine lv_iconst (v := 0) hx hb dX3_bestInRing_24 (by decide) ?_
  refine lv_istore (lv' := [(8, .int 0), (7, .int (-1)), (6, .int r16), (5, .int r5), (0, .ref aG), (1, .ref aH), (2, .ref aD), (3, .int x3), (4, .int x4)]) hx hb dX3_bestInRing_25 hl (by decide) rfl (fun ls hl => ?_)
  refine lv_iconst (v := 0) hx hb dX3_bestInRing_27 (by decide) ?_
  refine lv_istore (lv' := [(9, .int 0), (8, .int 0), (7, .int (-1)), (6, .int r16), (5, .int r5), (0, .ref aG), (1, .ref aH), (2, .ref aD), (3, .int x3), (4, .int x4)]) hx hb dX3_bestInRing_28 hl (by decide) rfl (fun ls hl => ?_)
  exact L30 5000 r5 r16 (-1 : Int32) (0 : Int32) (0 : Int32) vW_cells vW_inFront vW_who aH0 vW H locs ls hP hD hS (lv_sub hl [5, 6, 7, 8, 4, 3, 2, 1, 0] rfl) hok
def wsX3_bestFor : List Cond := .code yX3_bestFor cX3_bestFor 7 (some .int) :: W0
abbrev wX3_bestFor (cy : Nat → ClassId) (aG : Nat) (aH : Nat) (aD : Nat) (qH : Nat → Nat) (qU : Nat → Nat) (qD : Nat → Nat) (qG : Nat → Nat) (qW : Nat → Nat) (aH0 : Nat) (fvW_4 : Nat) (vH : Nat → Int32) (vU : Nat → Int32) (vU_nights : Nat → Int32) (vD : Nat → Int32) (vD_now : Nat → Int32) (vU_things : Nat → Int32) (vU_cells : Nat → Int32) (vU_worths : Nat → Int32) (vH_kinds : Nat → Int32) (vG : Nat → Int32) (vW : Nat → Int32) (vW_who : Nat → Int32) (vW_cells : Nat → Int32) (vH_sorts : Nat → Int32) (vH_next : Nat → Int32) (vW_inFront : Nat → Int32) (vH_sizes : Nat → Int32) (vH_width : Nat → Int32) : va_W := [(aH, oX4 vH qH), (qH 7, oX7 vU qU), (qU 3, rI cy 6 vU_nights), (aD, oX1 vD qD), (qD 0, rI cy 9 vD_now), (qU 1, rI cy 6 vU_things), (qU 2, rI cy 6 vU_cells), (qU 4, rI cy 6 vU_worths), (qH 14, rI cy 7 vH_kinds), (aG, oX3 vG qG), (qG 0, oX6 vW qW fvW_4), (qW 1, rI cy 36 vW_who), (qW 0, rI cy 7 vW_cells), (qH 8, rI cy 4 vH_sorts), (qH 10, rI cy 36 vH_next), (qW 2, rI cy 7 vW_inFront), (qH 15, rI cy 7 vH_sizes), (qH 11, rI cy 36 vH_width)]
set_option maxHeartbeats 4000000 in
set_option maxRecDepth 100000 in
theorem kX3_bestFor (l : Launch) (D : va_G) (cy : Nat → ClassId) (sz : Nat) (aG : Nat) (aH : Nat) (aD : Nat) (qH : Nat → Nat) (qU : Nat → Nat) (qD : Nat → Nat) (qG : Nat → Nat) (qW : Nat → Nat) (aH0 : Nat) (vH : Nat → Int32) (vU : Nat → Int32) (vU_nights : Nat → Int32) (vD : Nat → Int32) (vD_now : Nat → Int32) (vU_things : Nat → Int32) (vU_cells : Nat → Int32) (vU_worths : Nat → Int32) (vH_kinds : Nat → Int32) (vG : Nat → Int32) (vW : Nat → Int32) (vW_who : Nat → Int32) (vW_cells : Nat → Int32) (vH_sorts : Nat → Int32) (vH_next : Nat → Int32) (vW_inFront : Nat → Int32) (vH_sizes : Nat → Int32) (vH_width : Nat → Int32) (x3 : Int32) (zr : Int32) (z_vW : Nat → Int32) (z_vW_who : Nat → Int32) (z_vW_cells : Nat → Int32) (z_vW_inFront : Nat → Int32) (z_aH0 : Nat) (hok : fX3_bestFor aH aH0 vH vU vU_nights vD vD_now vU_things vU_cells vU_worths vH_kinds vG vW vW_who vW_cells vH_sorts vH_next vW_inFront vH_sizes vH_width x3 = some (zr, z_vW, z_vW_who, z_vW_cells, z_vW_inFront, z_aH0)) (A : Nat → Prop) (hAe : va_A (wX3_bestFor cy aG aH aD qH qU qD qG qW aH0 aH0 vH vU vU_nights vD vD_now vU_things vU_cells vU_worths vH_kinds vG vW vW_who vW_cells vH_sorts vH_next vW_inFront vH_sizes vH_width) sz = A) : Met l yX3_bestFor wsX3_bestFor ({ frames := 5, cells := 0, slots := 0, locals := 131 } : Room) (kPre D cy [.ref aG, .ref aH, .ref aD, .int x3] (wX3_bestFor cy aG aH aD qH qU qD qG qW aH0 aH0 vH vU vU_nights vD vD_now vU_things vU_cells vU_worths vH_kinds vG vW vW_who vW_cells vH_sorts vH_next vW_inFront vH_sizes vH_width) sz) (kQi D cy zr A (wX3_bestFor cy aG aH aD qH qU qD qG qW aH0 z_aH0 vH vU vU_nights vD vD_now vU_things vU_cells vU_worths vH_kinds vG z_vW z_vW_who z_vW_cells vH_sorts vH_next z_vW_inFront vH_sizes vH_width)) 0 0 A := by
  refine Met.ofW (cc := cX3_bestFor) (maxL := 7) (ret := (some .int)) (by decide) rfl ?_
  intro p e s m args below meth c s₁ B hml hv
  obtain ⟨rfl, hsz, hP, hK, hD0, hN⟩ := hv
  have hx := B.exec
  have hb := B.bytes
  have hr := B.returns
  have ht0 : ∀ w ∈ W0, w.before _ s = true := fun w h => atoms_spec (ws := wsX3_bestFor) B.pre w (List.mem_cons_of_mem _ h)
  have hown : s.vm.findClass RX3 = some m.cls := findClass_of_methodNamed B.named
  have hlocks := B.notSynchronized
  subst hsz
  have hD : va_D A (wX3_bestFor cy aG aH aD qH qU qD qG qW aH0 aH0 vH vU vU_nights vD vD_now vU_things vU_cells vU_worths vH_kinds vG vW vW_who vW_cells vH_sorts vH_next vW_inFront vH_sizes vH_width) := by rw [← hAe]; exact hD0.self
  have hA : ∀ q : Nat, s.heap.size ≤ q → A q := fun q h => by rw [← hAe]; exact Or.inr h
  have hS : va_S A s.heap s.heap [] := va_S.rf
  have hl := lv_entry ([.ref aG, .ref aH, .ref aD, .int x3]) (n := 7) (Nat.le_of_ble_eq_true rfl)
  rw [lg_entry_eq]
  generalize (lg_sl ([.ref aG, .ref aH, .ref aD, .int x3]) ++ List.replicate (7 - (lg_sl ([.ref aG, .ref aH, .ref aD, .int x3])).length) Slot.unset).toArray = ls at hl ⊢
  have hl : lv_has ls 7 [(0, .ref aG), (1, .ref aH), (2, .ref aD), (3, .int x3)] := hl
  generalize hQe : MQ below (kQi D cy zr A (wX3_bestFor cy aG aH aD qH qU qD qG qW aH0 z_aH0 vH vU vU_nights vD vD_now vU_things vU_cells vU_worths vH_kinds vG z_vW z_vW_who z_vW_cells vH_sorts vH_next z_vW_inFront vH_sizes vH_width)) ([.ref aG, .ref aH, .ref aD, .int x3] : List Value).toArray s 0 0 A = Q
  have L17 : ∀ (fuel : Nat) (y4_17 : Int32) (y5_17 : Int32) (y6_17 : Int32) (vW_cells_17 : Nat → Int32) (vW_inFront_17 : Nat → Int32) (vW_who_17 : Nat → Int32) (vW_4_17 : Nat) (vW_17 : Nat → Int32), ∀ (H : Heap) (locs : List Loc) (ls : Array Slot), va_P D vwCl (wX3_bestFor cy aG aH aD qH qU qD qG qW aH0 vW_4_17 vH vU vU_nights vD vD_now vU_things vU_cells vU_worths vH_kinds vG vW_17 vW_who_17 vW_cells_17 vH_sorts vH_next vW_inFront_17 vH_sizes vH_width) H → va_D A (wX3_bestFor cy aG aH aD qH qU qD qG qW aH0 vW_4_17 vH vU vU_nights vD vD_now vU_things vU_cells vU_worths vH_kinds vG vW_17 vW_who_17 vW_cells_17 vH_sorts vH_next vW_inFront_17 vH_sizes vH_width) → va_S A s.heap H locs → lv_has ls 7 [(0, .ref aG), (1, .ref aH), (2, .ref aD), (4, .int y4_17), (5, .int y5_17), (6, .int y6_17)] → lp (fX3_bestFor_B17 aH vH vU vU_nights vD vD_now vU_things vU_cells vU_worths vH_kinds vG vH_sorts vH_next vH_sizes vH_width) fuel (y4_17, y5_17, y6_17, vW_cells_17, vW_inFront_17, vW_who_17, vW_4_17, vW_17) = some (zr, z_vW, z_vW_who, z_vW_cells, z_vW_inFront, z_aH0) → W p l e ({ frames := 5, cells := 0, slots := 0, locals := 131 } : Room) s m ([.ref aG, .ref aH, .ref aD, .int x3] : List Value).toArray below meth c H locs 0 0 Q (F0 m 17 ls []) := by
    intro fuel
    induction fuel with
    | zero => intro y4_17 y5_17 y6_17 vW_cells_17 vW_inFront_17 vW_who_17 vW_4_17 vW_17 H locs ls hP hD hS hl hok; exact (lp_0 hok).elim
    | succ fuel ih17 =>
      intro y4_17 y5_17 y6_17 vW_cells_17 vW_inFront_17 vW_who_17 vW_4_17 vW_17 H locs ls hP hD hS hl hok
      obtain ⟨y17, hok, hL17, hR17⟩ := lp_step hok
      unfold fX3_bestFor_B17 at hok
      try dsimp only at hok
      refine lv_iload hx hb dX3_bestFor_17 (lv_at hl 5 rfl) ?_
      refine lv_aload_n hx hb dX3_bestFor_19 rfl (lv_at hl 1 rfl) ?_
      refine va_get (D := D) (ci := 3) (v := .int (vH 2)) (C := RX4) (T := TX4) (N := 20) hx hb ht0 niX4 hown hK hP 0 rfl rfl 2 (by decide) (ht0 _ wd232) (fun _ h9 => h9) rfl dX3_bestFor_20 ?_
      refine lv_icmp_ge (tgt := 56) hx hb dX3_bestFor_23 (by decide) (fun c23 => ?_) (fun c23 => ?_)
      · have hok := k_pos c23 hok
        obtain ⟨e17, hok, he17⟩ := ex_some hok
        have hok := hok.trans (congrArg some (hL17 _ he17))
        refine lv_iload hx hb dX3_bestFor_56 (lv_at hl 4 rfl) ?_
        cases hok
        subst hQe; exact W.iret hx hb hr (fun t ht hW => ⟨⟨_, (), rfl, rfl, by rw [ht]; exact hP, va_K.moved hW.alike hK, hD⟩, hS.F ht⟩) hS.2.2 dX3_bestFor_58
      · have hok := k_neg c23 hok
        refine lv_iload hx hb dX3_bestFor_26 (lv_at hl 4 rfl) ?_
        refine lv_aload_n hx hb dX3_bestFor_28 rfl (lv_at hl 0 rfl) ?_
        refine lv_aload_n hx hb dX3_bestFor_29 rfl (lv_at hl 1 rfl) ?_
        refine lv_aload_n hx hb dX3_bestFor_30 rfl (lv_at hl 2 rfl) ?_
        refine lv_aload_n hx hb dX3_bestFor_31 rfl (lv_at hl 1 rfl) ?_
        refine va_get (D := D) (ci := 3) (v := .ref (qH 7)) (C := RX4) (T := TX4) (N := 20) hx hb ht0 niX4 hown hK hP 0 rfl rfl 7 (by decide) (ht0 _ wd214) (fun _ h9 => h9) rfl dX3_bestFor_32 ?_
        refine lv_iload hx hb dX3_bestFor_35 (lv_at hl 3 rfl) ?_
        refine lv_iload hx hb dX3_bestFor_37 (lv_at hl 5 rfl) ?_
        obtain ⟨r39, hc39, hok⟩ := k_bind hok
        refine kCi (wc := (wX7_ofRing cy (qH 7) qU vU vU_cells)) (wc2 := (wX7_ofRing cy (qH 7) qU vU vU_cells)) (wr := [(aH, oX4 vH qH), (qU 3, rI cy 6 vU_nights), (aD, oX1 vD qD), (qD 0, rI cy 9 vD_now), (qU 1, rI cy 6 vU_things), (qU 4, rI cy 6 vU_worths), (qH 14, rI cy 7 vH_kinds), (aG, oX3 vG qG), (qG 0, oX6 vW_17 qW vW_4_17), (qW 1, rI cy 36 vW_who_17), (qW 0, rI cy 7 vW_cells_17), (qH 8, rI cy 4 vH_sorts), (qH 10, rI cy 36 vH_next), (qW 2, rI cy 7 vW_inFront_17), (qH 15, rI cy 7 vH_sizes), (qH 11, rI cy 36 vH_width)]) (ws2 := (wX3_bestFor cy aG aH aD qH qU qD qG qW aH0 vW_4_17 vH vU vU_nights vD vD_now vU_things vU_cells vU_worths vH_kinds vG vW_17 vW_who_17 vW_cells_17 vH_sorts vH_next vW_inFront_17 vH_sizes vH_width)) (kRunV (As := [.int y4_17, .int y6_17]) (rest := [.ref aD, .ref aH, .ref aG, .int y5_17]) ⟨hx, hb, hml, hown, ht0⟩ (kX7_ofRing l D cy _ (qH 7) qU vU vU_cells y4_17 y6_17 r39 hc39 _ rfl) (cwV 2 ht0 (gV wd233 wd234 wd235 wd218 wd236) rfl rfl rfl (by decide +kernel) ⟨Nat.le_of_ble_eq_true rfl, Nat.le_of_ble_eq_true rfl⟩) hK hN hP hD [1, 6] rfl (by decide) 1 6 rfl rfl rfl hl.1 rfl (Nat.le_of_ble_eq_true rfl) dX3_bestFor_39 ⟨Nat.zero_le _, Nat.zero_le _⟩) hP hD hS hA [1, 6] [0, 2, 3, 4, 5, 7, 8, 9, 10, 11, 12, 13, 14, 15, 16, 17] rfl rfl (by decide) (by decide) [0, 16, 1, 2, 3, 4, 17, 5, 6, 7, 8, 9, 10, 11, 12, 13, 14, 15] (by decide) rfl rfl (fun H locs hP hD hS => ?_)
        refine lv_iload hx hb dX3_bestFor_42 (lv_at hl 5 rfl) ?_
        obtain ⟨⟨r44, vW_44, vW_who_44, vW_cells_44, vW_inFront_44, aH0_44⟩, hc44, hok⟩ := k_bind hok
        try dsimp only at hok
        refine kCi (wc := (wX3_bestInRing cy aG aH aD qH qU qD qG qW vW_4_17 vW_4_17 vH vU vU_worths vD vD_now vH_kinds vU_nights vG vW_17 vW_who_17 vW_cells_17 vH_sorts vH_next vW_inFront_17 vH_sizes vH_width vU_things vU_cells)) (wc2 := (wX3_bestInRing cy aG aH aD qH qU qD qG qW vW_4_17 aH0_44 vH vU vU_worths vD vD_now vH_kinds vU_nights vG vW_44 vW_who_44 vW_cells_44 vH_sorts vH_next vW_inFront_44 vH_sizes vH_width vU_things vU_cells)) (wr := []) (ws2 := (wX3_bestFor cy aG aH aD qH qU qD qG qW aH0 aH0_44 vH vU vU_nights vD vD_now vU_things vU_cells vU_worths vH_kinds vG vW_44 vW_who_44 vW_cells_44 vH_sorts vH_next vW_inFront_44 vH_sizes vH_width)) (kRunV (As := [.ref aH, .ref aD, .int r39, .int y6_17]) (rest := [.int y5_17]) ⟨hx, hb, hml, hown, ht0⟩ (kX3_bestInRing l D cy _ aG aH aD qH qU qD qG qW vW_4_17 vH vU vU_worths vD vD_now vH_kinds vU_nights vG vW_17 vW_who_17 vW_cells_17 vH_sorts vH_next vW_inFront_17 vH_sizes vH_width vU_things vU_cells r39 y6_17 r44 vW_44 vW_who_44 vW_cells_44 vW_inFront_44 aH0_44 hc44 _ rfl) (cwV 4 ht0 (gV wd237 wd238 wd239 wd178 wd240) rfl rfl rfl (by decide +kernel) ⟨Nat.le_of_ble_eq_true rfl, Nat.le_of_ble_eq_true rfl⟩) hK hN hP hD [0, 1, 7, 3, 4, 8, 2, 9, 10, 11, 12, 13, 14, 15, 16, 17, 5, 6] rfl (by decide) 9 2 rfl rfl rfl hl.1 rfl (Nat.le_of_ble_eq_true rfl) dX3_bestFor_44 ⟨Nat.zero_le _, Nat.zero_le _⟩) hP hD hS hA [0, 1, 7, 3, 4, 8, 2, 9, 10, 11, 12, 13, 14, 15, 16, 17, 5, 6] [] rfl rfl (by decide) (by decide) [0, 1, 6, 3, 4, 16, 17, 2, 5, 7, 8, 9, 10, 11, 12, 13, 14, 15] (by decide) rfl rfl (fun H locs hP hD hS => ?_)
        refine lv_ior hx hb dX3_bestFor_47 ?_
        refine lv_istore (lv' := [(5, .int (y5_17 ||| r44)), (0, .ref aG), (1, .ref aH), (2, .ref aD), (4, .int y4_17), (6, .int y6_17)]) hx hb dX3_bestFor_48 hl (by decide) rfl (fun ls hl => ?_)
        refine lv_iinc (v := (y6_17 + 1)) (lv' := [(6, .int (y6_17 + 1)), (5, .int (y5_17 ||| r44)), (0, .ref aG), (1, .ref aH), (2, .ref aD), (4, .int y4_17)]) hx hb dX3_bestFor_50 hl (k := 5) rfl (by first | rfl | decide) (by decide) rfl (fun ls hl => ?_)
        refine lv_goto (tgt := 17) hx hb dX3_bestFor_53 (by decide) ?_
        exact ih17 y4_17 (y5_17 ||| r44) (y6_17 + 1) vW_cells_44 vW_inFront_44 vW_who_44 aH0_44 vW_44 H locs ls hP hD hS (lv_sub hl [2, 3, 4, 5, 1, 0] rfl) (hR17 _ (Option.some.inj hok).symm)
  unfold fX3_bestFor at hok
  obtain ⟨H, hH⟩ : ∃ H, H = s.heap := ⟨_, rfl⟩
  obtain ⟨locs, hlc⟩ : ∃ x : List Loc, x = [] := ⟨_, rfl⟩
  have hP : va_P D vwCl (wX3_bestFor cy aG aH aD qH qU qD qG qW aH0 aH0 vH vU vU_nights vD vD_now vU_things vU_cells vU_worths vH_kinds vG vW vW_who vW_cells vH_sorts vH_next vW_inFront vH_sizes vH_width) H := by rw [hH]; exact hP
  have hS : va_S A s.heap H locs := by rw [hH, hlc]; exact hS
  rw [show W p l e _ s m _ below meth c s.heap [] = W p l e _ s m _ below meth c H locs from by rw [hH, hlc]]
  refine lv_aload_n hx hb dX3_bestFor_0 rfl (lv_at hl 1 rfl) ?_
  refine va_get (D := D) (ci := 3) (v := .ref (qH 7)) (C := RX4) (T := TX4) (N := 20) hx hb ht0 niX4 hown hK hP 0 rfl rfl 7 (by decide) (ht0 _ wd214) (fun _ h9 => h9) rfl dX3_bestFor_1 ?_
  refine lv_aload_n hx hb dX3_bestFor_4 rfl (lv_at hl 2 rfl) ?_
  refine lv_iload_n hx hb dX3_bestFor_5 rfl (lv_at hl 3 rfl) ?_
  obtain ⟨r6, hc6, hok⟩ := k_bind hok
  refine kCi (wc := (wX7_withinReach cy (qH 7) aD qU qD vU vU_nights vD vD_now vU_things vU_cells)) (wc2 := (wX7_withinReach cy (qH 7) aD qU qD vU vU_nights vD vD_now vU_things vU_cells)) (wr := [(aH, oX4 vH qH), (qU 4, rI cy 6 vU_worths), (qH 14, rI cy 7 vH_kinds), (aG, oX3 vG qG), (qG 0, oX6 vW qW aH0), (qW 1, rI cy 36 vW_who), (qW 0, rI cy 7 vW_cells), (qH 8, rI cy 4 vH_sorts), (qH 10, rI cy 36 vH_next), (qW 2, rI cy 7 vW_inFront), (qH 15, rI cy 7 vH_sizes), (qH 11, rI cy 36 vH_width)]) (ws2 := (wX3_bestFor cy aG aH aD qH qU qD qG qW aH0 aH0 vH vU vU_nights vD vD_now vU_things vU_cells vU_worths vH_kinds vG vW vW_who vW_cells vH_sorts vH_next vW_inFront vH_sizes vH_width)) (kRunV (As := [.ref aD, .int x3]) (rest := []) ⟨hx, hb, hml, hown, ht0⟩ (kX7_withinReach l D cy _ (qH 7) aD qU qD vU vU_nights vD vD_now vU_things vU_cells x3 r6 hc6 _ rfl) (cwV 2 ht0 (gV wd241 wd242 wd243 wd218 wd244) rfl rfl rfl (by decide +kernel) ⟨Nat.le_of_ble_eq_true rfl, Nat.le_of_ble_eq_true rfl⟩) hK hN hP hD [1, 2, 3, 4, 5, 6] rfl (by decide) 1 6 rfl rfl rfl hl.1 rfl (Nat.le_of_ble_eq_true rfl) dX3_bestFor_6 ⟨Nat.zero_le _, Nat.zero_le _⟩) hP hD hS hA [1, 2, 3, 4, 5, 6] [0, 7, 8, 9, 10, 11, 12, 13, 14, 15, 16, 17] rfl rfl (by decide) (by decide) [0, 12, 13, 14, 15, 16, 17, 1, 2, 3, 4, 5, 6, 7, 8, 9, 10, 11] (by decide) rfl rfl (fun H locs hP hD hS => ?_)
  refine lv_istore (lv' := [(4, .int r6), (0, .ref aG), (1, .ref aH), (2, .ref aD), (3, .int x3)]) hx hb dX3_bestFor_9 hl (by decide) rfl (fun ls hl => ?_)
  refine lv_iconst (v := 0) hx hb dX3_bestFor_11 (by decide) ?_
  refine lv_istore (lv' := [(5, .int 0), (4, .int r6), (0, .ref aG), (1, .ref aH), (2, .ref aD), (3, .int x3)]) hx hb dX3_bestFor_12 hl (by decide) rfl (fun ls hl => ?_)
  refine lv_iconst (v := 0) hx hb dX3_bestFor_14 (by decide) ?_
  refine lv_istore (lv' := [(6, .int 0), (5, .int 0), (4, .int r6), (0, .ref aG), (1, .ref aH), (2, .ref aD), (3, .int x3)]) hx hb dX3_bestFor_15 hl (by decide) rfl (fun ls hl => ?_)
  exact L17 5000 r6 (0 : Int32) (0 : Int32) vW_cells vW_inFront vW_who aH0 vW H locs ls hP hD hS (lv_sub hl [3, 4, 5, 2, 1, 0] rfl) hok
def wsX3_paidWithin : List Cond := .code yX3_paidWithin cX3_paidWithin 5 (some .int) :: W0
abbrev wX3_paidWithin (cy : Nat → ClassId) (aG : Nat) (aH : Nat) (aD : Nat) (qH : Nat → Nat) (qU : Nat → Nat) (qD : Nat → Nat) (qG : Nat → Nat) (qW : Nat → Nat) (aH0 : Nat) (fvW_4 : Nat) (vH : Nat → Int32) (vU : Nat → Int32) (vU_nights : Nat → Int32) (vD : Nat → Int32) (vD_now : Nat → Int32) (vU_things : Nat → Int32) (vU_cells : Nat → Int32) (vG : Nat → Int32) (vW : Nat → Int32) (vW_who : Nat → Int32) (vH_kinds : Nat → Int32) (vW_cells : Nat → Int32) (vH_sorts : Nat → Int32) (vH_next : Nat → Int32) (vW_inFront : Nat → Int32) (vH_sizes : Nat → Int32) (vH_width : Nat → Int32) : va_W := [(aH, oX4 vH qH), (qH 7, oX7 vU qU), (qU 3, rI cy 6 vU_nights), (aD, oX1 vD qD), (qD 0, rI cy 9 vD_now), (qU 1, rI cy 6 vU_things), (qU 2, rI cy 6 vU_cells), (aG, oX3 vG qG), (qG 0, oX6 vW qW fvW_4), (qW 1, rI cy 36 vW_who), (qH 14, rI cy 7 vH_kinds), (qW 0, rI cy 7 vW_cells), (qH 8, rI cy 4 vH_sorts), (qH 10, rI cy 36 vH_next), (qW 2, rI cy 7 vW_inFront), (qH 15, rI cy 7 vH_sizes), (qH 11, rI cy 36 vH_width)]
set_option maxHeartbeats 4000000 in
set_option maxRecDepth 100000 in
theorem kX3_paidWithin (l : Launch) (D : va_G) (cy : Nat → ClassId) (sz : Nat) (aG : Nat) (aH : Nat) (aD : Nat) (qH : Nat → Nat) (qU : Nat → Nat) (qD : Nat → Nat) (qG : Nat → Nat) (qW : Nat → Nat) (aH0 : Nat) (vH : Nat → Int32) (vU : Nat → Int32) (vU_nights : Nat → Int32) (vD : Nat → Int32) (vD_now : Nat → Int32) (vU_things : Nat → Int32) (vU_cells : Nat → Int32) (vG : Nat → Int32) (vW : Nat → Int32) (vW_who : Nat → Int32) (vH_kinds : Nat → Int32) (vW_cells : Nat → Int32) (vH_sorts : Nat → Int32) (vH_next : Nat → Int32) (vW_inFront : Nat → Int32) (vH_sizes : Nat → Int32) (vH_width : Nat → Int32) (x3 : Int32) (x4 : Int32) (zr : Int32) (z_vW : Nat → Int32) (z_vW_who : Nat → Int32) (z_vW_cells : Nat → Int32) (z_vW_inFront : Nat → Int32) (hok : fX3_paidWithin vH vU vU_nights vD vD_now vU_things vU_cells vG vW vW_who vH_kinds vW_cells vH_sorts vH_next vW_inFront vH_sizes vH_width x3 x4 = some (zr, z_vW, z_vW_who, z_vW_cells, z_vW_inFront)) (A : Nat → Prop) (hAe : va_A (wX3_paidWithin cy aG aH aD qH qU qD qG qW aH0 aH0 vH vU vU_nights vD vD_now vU_things vU_cells vG vW vW_who vH_kinds vW_cells vH_sorts vH_next vW_inFront vH_sizes vH_width) sz = A) : Met l yX3_paidWithin wsX3_paidWithin ({ frames := 4, cells := 0, slots := 0, locals := 100 } : Room) (kPre D cy [.ref aG, .ref aH, .ref aD, .int x3, .int x4] (wX3_paidWithin cy aG aH aD qH qU qD qG qW aH0 aH0 vH vU vU_nights vD vD_now vU_things vU_cells vG vW vW_who vH_kinds vW_cells vH_sorts vH_next vW_inFront vH_sizes vH_width) sz) (kQi D cy zr A (wX3_paidWithin cy aG aH aD qH qU qD qG qW aH0 aH vH vU vU_nights vD vD_now vU_things vU_cells vG z_vW z_vW_who vH_kinds z_vW_cells vH_sorts vH_next z_vW_inFront vH_sizes vH_width)) 0 0 A := by
  refine Met.ofW (cc := cX3_paidWithin) (maxL := 5) (ret := (some .int)) (by decide) rfl ?_
  intro p e s m args below meth c s₁ B hml hv
  obtain ⟨rfl, hsz, hP, hK, hD0, hN⟩ := hv
  have hx := B.exec
  have hb := B.bytes
  have hr := B.returns
  have ht0 : ∀ w ∈ W0, w.before _ s = true := fun w h => atoms_spec (ws := wsX3_paidWithin) B.pre w (List.mem_cons_of_mem _ h)
  have hown : s.vm.findClass RX3 = some m.cls := findClass_of_methodNamed B.named
  have hlocks := B.notSynchronized
  subst hsz
  have hD : va_D A (wX3_paidWithin cy aG aH aD qH qU qD qG qW aH0 aH0 vH vU vU_nights vD vD_now vU_things vU_cells vG vW vW_who vH_kinds vW_cells vH_sorts vH_next vW_inFront vH_sizes vH_width) := by rw [← hAe]; exact hD0.self
  have hA : ∀ q : Nat, s.heap.size ≤ q → A q := fun q h => by rw [← hAe]; exact Or.inr h
  have hS : va_S A s.heap s.heap [] := va_S.rf
  have hl := lv_entry ([.ref aG, .ref aH, .ref aD, .int x3, .int x4]) (n := 5) (Nat.le_of_ble_eq_true rfl)
  rw [lg_entry_eq]
  generalize (lg_sl ([.ref aG, .ref aH, .ref aD, .int x3, .int x4]) ++ List.replicate (5 - (lg_sl ([.ref aG, .ref aH, .ref aD, .int x3, .int x4])).length) Slot.unset).toArray = ls at hl ⊢
  have hl : lv_has ls 5 [(0, .ref aG), (1, .ref aH), (2, .ref aD), (3, .int x3), (4, .int x4)] := hl
  unfold fX3_paidWithin at hok
  obtain ⟨H, hH⟩ : ∃ H, H = s.heap := ⟨_, rfl⟩
  obtain ⟨locs, hlc⟩ : ∃ x : List Loc, x = [] := ⟨_, rfl⟩
  have hP : va_P D vwCl (wX3_paidWithin cy aG aH aD qH qU qD qG qW aH0 aH0 vH vU vU_nights vD vD_now vU_things vU_cells vG vW vW_who vH_kinds vW_cells vH_sorts vH_next vW_inFront vH_sizes vH_width) H := by rw [hH]; exact hP
  have hS : va_S A s.heap H locs := by rw [hH, hlc]; exact hS
  rw [show W p l e _ s m _ below meth c s.heap [] = W p l e _ s m _ below meth c H locs from by rw [hH, hlc]]
  refine lv_aload_n hx hb dX3_paidWithin_0 rfl (lv_at hl 0 rfl) ?_
  refine lv_aload_n hx hb dX3_paidWithin_1 rfl (lv_at hl 1 rfl) ?_
  refine va_get (D := D) (ci := 3) (v := .ref (qH 7)) (C := RX4) (T := TX4) (N := 20) hx hb ht0 niX4 hown hK hP 0 rfl rfl 7 (by decide) (ht0 _ wd214) (fun _ h9 => h9) rfl dX3_paidWithin_2 ?_
  refine lv_aload_n hx hb dX3_paidWithin_5 rfl (lv_at hl 2 rfl) ?_
  refine lv_iload hx hb dX3_paidWithin_6 (lv_at hl 4 rfl) ?_
  obtain ⟨r8, hc8, hok⟩ := k_bind hok
  refine kCi (wc := (wX7_withinReach cy (qH 7) aD qU qD vU vU_nights vD vD_now vU_things vU_cells)) (wc2 := (wX7_withinReach cy (qH 7) aD qU qD vU vU_nights vD vD_now vU_things vU_cells)) (wr := [(aH, oX4 vH qH), (aG, oX3 vG qG), (qG 0, oX6 vW qW aH0), (qW 1, rI cy 36 vW_who), (qH 14, rI cy 7 vH_kinds), (qW 0, rI cy 7 vW_cells), (qH 8, rI cy 4 vH_sorts), (qH 10, rI cy 36 vH_next), (qW 2, rI cy 7 vW_inFront), (qH 15, rI cy 7 vH_sizes), (qH 11, rI cy 36 vH_width)]) (ws2 := (wX3_paidWithin cy aG aH aD qH qU qD qG qW aH0 aH0 vH vU vU_nights vD vD_now vU_things vU_cells vG vW vW_who vH_kinds vW_cells vH_sorts vH_next vW_inFront vH_sizes vH_width)) (kRunV (As := [.ref aD, .int x4]) (rest := [.ref aG]) ⟨hx, hb, hml, hown, ht0⟩ (kX7_withinReach l D cy _ (qH 7) aD qU qD vU vU_nights vD vD_now vU_things vU_cells x4 r8 hc8 _ rfl) (cwV 2 ht0 (gV wd241 wd242 wd243 wd218 wd244) rfl rfl rfl (by decide +kernel) ⟨Nat.le_of_ble_eq_true rfl, Nat.le_of_ble_eq_true rfl⟩) hK hN hP hD [1, 2, 3, 4, 5, 6] rfl (by decide) 1 6 rfl rfl rfl hl.1 rfl (Nat.le_of_ble_eq_true rfl) dX3_paidWithin_8 ⟨Nat.zero_le _, Nat.zero_le _⟩) hP hD hS hA [1, 2, 3, 4, 5, 6] [0, 7, 8, 9, 10, 11, 12, 13, 14, 15, 16] rfl rfl (by decide) (by decide) [0, 11, 12, 13, 14, 15, 16, 1, 2, 3, 4, 5, 6, 7, 8, 9, 10] (by decide) rfl rfl (fun H locs hP hD hS => ?_)
  refine lv_aload_n hx hb dX3_paidWithin_11 rfl (lv_at hl 1 rfl) ?_
  refine lv_aload_n hx hb dX3_paidWithin_12 rfl (lv_at hl 2 rfl) ?_
  refine lv_iload_n hx hb dX3_paidWithin_13 rfl (lv_at hl 3 rfl) ?_
  obtain ⟨⟨r14, vW_14, vW_who_14, vW_cells_14, vW_inFront_14⟩, hc14, hok⟩ := k_bind hok
  try dsimp only at hok
  refine kCi (wc := (wX3_paidOf cy aG aH aD qH qU qG qW aH0 qD aH0 vH vU vU_nights vG vW vD vD_now vW_who vH_kinds vW_cells vH_sorts vH_next vW_inFront vH_sizes vH_width vU_things vU_cells)) (wc2 := (wX3_paidOf cy aG aH aD qH qU qG qW aH0 qD aH vH vU vU_nights vG vW_14 vD vD_now vW_who_14 vH_kinds vW_cells_14 vH_sorts vH_next vW_inFront_14 vH_sizes vH_width vU_things vU_cells)) (wr := []) (ws2 := (wX3_paidWithin cy aG aH aD qH qU qD qG qW aH0 aH vH vU vU_nights vD vD_now vU_things vU_cells vG vW_14 vW_who_14 vH_kinds vW_cells_14 vH_sorts vH_next vW_inFront_14 vH_sizes vH_width)) (kRunV (As := [.int r8, .ref aH, .ref aD, .int x3]) (rest := []) ⟨hx, hb, hml, hown, ht0⟩ (kX3_paidOf l D cy _ aG aH aD qH qU qG qW aH0 qD vH vU vU_nights vG vW vD vD_now vW_who vH_kinds vW_cells vH_sorts vH_next vW_inFront vH_sizes vH_width vU_things vU_cells r8 x3 r14 vW_14 vW_who_14 vW_cells_14 vW_inFront_14 hc14 _ rfl) (cwV 4 ht0 (gV wd224 wd225 wd226 wd178 wd227) rfl rfl rfl (by decide +kernel) ⟨Nat.le_of_ble_eq_true rfl, Nat.le_of_ble_eq_true rfl⟩) hK hN hP hD [0, 1, 2, 7, 8, 3, 4, 9, 10, 11, 12, 13, 14, 15, 16, 5, 6] rfl (by decide) 7 2 rfl rfl rfl hl.1 rfl (Nat.le_of_ble_eq_true rfl) dX3_paidWithin_14 ⟨Nat.zero_le _, Nat.zero_le _⟩) hP hD hS hA [0, 1, 2, 7, 8, 3, 4, 9, 10, 11, 12, 13, 14, 15, 16, 5, 6] [] rfl rfl (by decide) (by decide) [0, 1, 2, 5, 6, 15, 16, 3, 4, 7, 8, 9, 10, 11, 12, 13, 14] (by decide) rfl rfl (fun H locs hP hD hS => ?_)
  cases hok
  exact W.iret hx hb hr (fun t ht hW => ⟨⟨_, (), rfl, rfl, by rw [ht]; exact hP, va_K.moved hW.alike hK, hD⟩, hS.F ht⟩) hS.2.2 dX3_paidWithin_17
def wsX7_clear : List Cond := .code yX7_clear cX7_clear 1 none :: W0
abbrev wX7_clear (cy : Nat → ClassId) (aU : Nat) (qU : Nat → Nat) (vU : Nat → Int32) : va_W := [(aU, oX7 vU qU)]
set_option maxHeartbeats 4000000 in
set_option maxRecDepth 100000 in
theorem kX7_clear (l : Launch) (D : va_G) (cy : Nat → ClassId) (sz : Nat) (aU : Nat) (qU : Nat → Nat) (vU : Nat → Int32) (z_vU : Nat → Int32) (hok : fX7_clear vU = some z_vU) (A : Nat → Prop) (hAe : va_A (wX7_clear cy aU qU vU) sz = A) : Met l yX7_clear wsX7_clear ({ frames := 0, cells := 0, slots := 0, locals := 0 } : Room) (kPre D cy [.ref aU] (wX7_clear cy aU qU vU) sz) (kQv D cy A (wX7_clear cy aU qU z_vU)) 0 0 A := by
  refine Met.ofW (cc := cX7_clear) (maxL := 1) (ret := none) (by decide) rfl ?_
  intro p e s m args below meth c s₁ B hml hv
  obtain ⟨rfl, hsz, hP, hK, hD0, hN⟩ := hv
  have hx := B.exec
  have hb := B.bytes
  have hr := B.returns
  have ht0 : ∀ w ∈ W0, w.before _ s = true := fun w h => atoms_spec (ws := wsX7_clear) B.pre w (List.mem_cons_of_mem _ h)
  have hown : s.vm.findClass RX7 = some m.cls := findClass_of_methodNamed B.named
  have hlocks := B.notSynchronized
  subst hsz
  have hD : va_D A (wX7_clear cy aU qU vU) := by rw [← hAe]; exact hD0.self
  have hA : ∀ q : Nat, s.heap.size ≤ q → A q := fun q h => by rw [← hAe]; exact Or.inr h
  have hS : va_S A s.heap s.heap [] := va_S.rf
  have hl := lv_entry ([.ref aU]) (n := 1) (Nat.le_of_ble_eq_true rfl)
  rw [lg_entry_eq]
  generalize (lg_sl ([.ref aU]) ++ List.replicate (1 - (lg_sl ([.ref aU])).length) Slot.unset).toArray = ls at hl ⊢
  have hl : lv_has ls 1 [(0, .ref aU)] := hl
  unfold fX7_clear at hok
  obtain ⟨H, hH⟩ : ∃ H, H = s.heap := ⟨_, rfl⟩
  obtain ⟨locs, hlc⟩ : ∃ x : List Loc, x = [] := ⟨_, rfl⟩
  have hP : va_P D vwCl (wX7_clear cy aU qU vU) H := by rw [hH]; exact hP
  have hS : va_S A s.heap H locs := by rw [hH, hlc]; exact hS
  rw [show W p l e _ s m _ below meth c s.heap [] = W p l e _ s m _ below meth c H locs from by rw [hH, hlc]]
  refine lv_aload_n hx hb dX7_clear_0 rfl (lv_at hl 0 rfl) ?_
  refine lv_iconst (v := 0) hx hb dX7_clear_1 (by decide) ?_
  refine va_put (D := D) (ci := 6) (v := .int 0) (ty := .int) (C := RX7) (T := TX7) (N := 5) hx hb ht0 niX7 tyX7 tyX7_ok nmX7 hown hK hP hD hS 0 rfl rfl 0 (by decide) (ht0 _ wd202) (fun _ h9 => h9) rfl (by decide +kernel) rfl rfl (Nat.le_of_ble_eq_true rfl) dX7_clear_2 (fun H locs hP hD hS => ?_)
  have hP : va_P D vwCl (wX7_clear cy aU qU (upd vU 0 (0 : Int32))) H := hP
  have hD : va_D A (wX7_clear cy aU qU (upd vU 0 (0 : Int32))) := hD
  cases hok
  exact W.vret hx hb hr (fun t ht hW => ⟨⟨(), rfl, trivial, by rw [ht]; exact hP, va_K.moved hW.alike hK, hD⟩, hS.F ht⟩) hS.2.2 dX7_clear_5
def wsX4_clear : List Cond := .code yX4_clear cX4_clear 1 none :: W0
abbrev wX4_clear (cy : Nat → ClassId) (aH : Nat) (qH : Nat → Nat) (qU : Nat → Nat) (vH : Nat → Int32) (vU : Nat → Int32) (vH_next : Nat → Int32) (vH_width : Nat → Int32) : va_W := [(aH, oX4 vH qH), (qH 7, oX7 vU qU), (qH 10, rI cy 36 vH_next), (qH 11, rI cy 36 vH_width)]
set_option maxHeartbeats 4000000 in
set_option maxRecDepth 100000 in
theorem kX4_clear (l : Launch) (D : va_G) (cy : Nat → ClassId) (sz : Nat) (aH : Nat) (qH : Nat → Nat) (qU : Nat → Nat) (vH : Nat → Int32) (vU : Nat → Int32) (vH_next : Nat → Int32) (vH_width : Nat → Int32) (z_vH : Nat → Int32) (z_vU : Nat → Int32) (z_vH_next : Nat → Int32) (z_vH_width : Nat → Int32) (hok : fX4_clear vH vU vH_next vH_width = some (z_vH, z_vU, z_vH_next, z_vH_width)) (A : Nat → Prop) (hAe : va_A (wX4_clear cy aH qH qU vH vU vH_next vH_width) sz = A) : Met l yX4_clear wsX4_clear ({ frames := 1, cells := 0, slots := 0, locals := 23 } : Room) (kPre D cy [.ref aH] (wX4_clear cy aH qH qU vH vU vH_next vH_width) sz) (kQv D cy A (wX4_clear cy aH qH qU z_vH z_vU z_vH_next z_vH_width)) 0 0 A := by
  refine Met.ofW (cc := cX4_clear) (maxL := 1) (ret := none) (by decide) rfl ?_
  intro p e s m args below meth c s₁ B hml hv
  obtain ⟨rfl, hsz, hP, hK, hD0, hN⟩ := hv
  have hx := B.exec
  have hb := B.bytes
  have hr := B.returns
  have ht0 : ∀ w ∈ W0, w.before _ s = true := fun w h => atoms_spec (ws := wsX4_clear) B.pre w (List.mem_cons_of_mem _ h)
  have hown : s.vm.findClass RX4 = some m.cls := findClass_of_methodNamed B.named
  have hlocks := B.notSynchronized
  subst hsz
  have hD : va_D A (wX4_clear cy aH qH qU vH vU vH_next vH_width) := by rw [← hAe]; exact hD0.self
  have hA : ∀ q : Nat, s.heap.size ≤ q → A q := fun q h => by rw [← hAe]; exact Or.inr h
  have hS : va_S A s.heap s.heap [] := va_S.rf
  have hl := lv_entry ([.ref aH]) (n := 1) (Nat.le_of_ble_eq_true rfl)
  rw [lg_entry_eq]
  generalize (lg_sl ([.ref aH]) ++ List.replicate (1 - (lg_sl ([.ref aH])).length) Slot.unset).toArray = ls at hl ⊢
  have hl : lv_has ls 1 [(0, .ref aH)] := hl
  unfold fX4_clear at hok
  obtain ⟨H, hH⟩ : ∃ H, H = s.heap := ⟨_, rfl⟩
  obtain ⟨locs, hlc⟩ : ∃ x : List Loc, x = [] := ⟨_, rfl⟩
  have hP : va_P D vwCl (wX4_clear cy aH qH qU vH vU vH_next vH_width) H := by rw [hH]; exact hP
  have hS : va_S A s.heap H locs := by rw [hH, hlc]; exact hS
  rw [show W p l e _ s m _ below meth c s.heap [] = W p l e _ s m _ below meth c H locs from by rw [hH, hlc]]
  refine lv_aload_n hx hb dX4_clear_0 rfl (lv_at hl 0 rfl) ?_
  refine lv_iconst (v := 0) hx hb dX4_clear_1 (by decide) ?_
  refine va_put (D := D) (ci := 3) (v := .int 0) (ty := .int) (C := RX4) (T := TX4) (N := 20) hx hb ht0 niX4 tyX4 tyX4_ok nmX4 hown hK hP hD hS 0 rfl rfl 0 (by decide) (ht0 _ wd245) (fun _ h9 => h9) rfl (by decide +kernel) rfl rfl (Nat.le_of_ble_eq_true rfl) dX4_clear_2 (fun H locs hP hD hS => ?_)
  have hP : va_P D vwCl (wX4_clear cy aH qH qU (upd vH 0 (0 : Int32)) vU vH_next vH_width) H := hP
  have hD : va_D A (wX4_clear cy aH qH qU (upd vH 0 (0 : Int32)) vU vH_next vH_width) := hD
  refine lv_aload_n hx hb dX4_clear_5 rfl (lv_at hl 0 rfl) ?_
  refine lv_iconst (v := 0) hx hb dX4_clear_6 (by decide) ?_
  refine va_put (D := D) (ci := 3) (v := .int 0) (ty := .int) (C := RX4) (T := TX4) (N := 20) hx hb ht0 niX4 tyX4 tyX4_ok nmX4 hown hK hP hD hS 0 rfl rfl 1 (by decide) (ht0 _ wd246) (fun _ h9 => h9) rfl (by decide +kernel) rfl rfl (Nat.le_of_ble_eq_true rfl) dX4_clear_7 (fun H locs hP hD hS => ?_)
  have hP : va_P D vwCl (wX4_clear cy aH qH qU (upd (upd vH 0 (0 : Int32)) 1 (0 : Int32)) vU vH_next vH_width) H := hP
  have hD : va_D A (wX4_clear cy aH qH qU (upd (upd vH 0 (0 : Int32)) 1 (0 : Int32)) vU vH_next vH_width) := hD
  refine lv_aload_n hx hb dX4_clear_10 rfl (lv_at hl 0 rfl) ?_
  refine lv_iconst (v := 0) hx hb dX4_clear_11 (by decide) ?_
  refine va_put (D := D) (ci := 3) (v := .int 0) (ty := .int) (C := RX4) (T := TX4) (N := 20) hx hb ht0 niX4 tyX4 tyX4_ok nmX4 hown hK hP hD hS 0 rfl rfl 2 (by decide) (ht0 _ wd93) (fun _ h9 => h9) rfl (by decide +kernel) rfl rfl (Nat.le_of_ble_eq_true rfl) dX4_clear_12 (fun H locs hP hD hS => ?_)
  have hP : va_P D vwCl (wX4_clear cy aH qH qU (upd (upd (upd vH 0 (0 : Int32)) 1 (0 : Int32)) 2 (0 : Int32)) vU vH_next vH_width) H := hP
  have hD : va_D A (wX4_clear cy aH qH qU (upd (upd (upd vH 0 (0 : Int32)) 1 (0 : Int32)) 2 (0 : Int32)) vU vH_next vH_width) := hD
  refine lv_aload_n hx hb dX4_clear_15 rfl (lv_at hl 0 rfl) ?_
  refine lv_iconst (v := 0) hx hb dX4_clear_16 (by decide) ?_
  refine va_put (D := D) (ci := 3) (v := .int 0) (ty := .int) (C := RX4) (T := TX4) (N := 20) hx hb ht0 niX4 tyX4 tyX4_ok nmX4 hown hK hP hD hS 0 rfl rfl 3 (by decide) (ht0 _ wd247) (fun _ h9 => h9) rfl (by decide +kernel) rfl rfl (Nat.le_of_ble_eq_true rfl) dX4_clear_17 (fun H locs hP hD hS => ?_)
  have hP : va_P D vwCl (wX4_clear cy aH qH qU (upd (upd (upd (upd vH 0 (0 : Int32)) 1 (0 : Int32)) 2 (0 : Int32)) 3 (0 : Int32)) vU vH_next vH_width) H := hP
  have hD : va_D A (wX4_clear cy aH qH qU (upd (upd (upd (upd vH 0 (0 : Int32)) 1 (0 : Int32)) 2 (0 : Int32)) 3 (0 : Int32)) vU vH_next vH_width) := hD
  refine lv_aload_n hx hb dX4_clear_20 rfl (lv_at hl 0 rfl) ?_
  refine lv_iconst (v := 0) hx hb dX4_clear_21 (by decide) ?_
  refine va_put (D := D) (ci := 3) (v := .int 0) (ty := .int) (C := RX4) (T := TX4) (N := 20) hx hb ht0 niX4 tyX4 tyX4_ok nmX4 hown hK hP hD hS 0 rfl rfl 4 (by decide) (ht0 _ wd161) (fun _ h9 => h9) rfl (by decide +kernel) rfl rfl (Nat.le_of_ble_eq_true rfl) dX4_clear_22 (fun H locs hP hD hS => ?_)
  have hP : va_P D vwCl (wX4_clear cy aH qH qU (upd (upd (upd (upd (upd vH 0 (0 : Int32)) 1 (0 : Int32)) 2 (0 : Int32)) 3 (0 : Int32)) 4 (0 : Int32)) vU vH_next vH_width) H := hP
  have hD : va_D A (wX4_clear cy aH qH qU (upd (upd (upd (upd (upd vH 0 (0 : Int32)) 1 (0 : Int32)) 2 (0 : Int32)) 3 (0 : Int32)) 4 (0 : Int32)) vU vH_next vH_width) := hD
  refine lv_aload_n hx hb dX4_clear_25 rfl (lv_at hl 0 rfl) ?_
  refine lv_iconst (v := 0) hx hb dX4_clear_26 (by decide) ?_
  refine va_put (D := D) (ci := 3) (v := .int 0) (ty := .int) (C := RX4) (T := TX4) (N := 20) hx hb ht0 niX4 tyX4 tyX4_ok nmX4 hown hK hP hD hS 0 rfl rfl 5 (by decide) (ht0 _ wd248) (fun _ h9 => h9) rfl (by decide +kernel) rfl rfl (Nat.le_of_ble_eq_true rfl) dX4_clear_27 (fun H locs hP hD hS => ?_)
  have hP : va_P D vwCl (wX4_clear cy aH qH qU (upd (upd (upd (upd (upd (upd vH 0 (0 : Int32)) 1 (0 : Int32)) 2 (0 : Int32)) 3 (0 : Int32)) 4 (0 : Int32)) 5 (0 : Int32)) vU vH_next vH_width) H := hP
  have hD : va_D A (wX4_clear cy aH qH qU (upd (upd (upd (upd (upd (upd vH 0 (0 : Int32)) 1 (0 : Int32)) 2 (0 : Int32)) 3 (0 : Int32)) 4 (0 : Int32)) 5 (0 : Int32)) vU vH_next vH_width) := hD
  refine lv_aload_n hx hb dX4_clear_30 rfl (lv_at hl 0 rfl) ?_
  refine lv_iconst (v := 0) hx hb dX4_clear_31 (by decide) ?_
  refine va_put (D := D) (ci := 3) (v := .int 0) (ty := .int) (C := RX4) (T := TX4) (N := 20) hx hb ht0 niX4 tyX4 tyX4_ok nmX4 hown hK hP hD hS 0 rfl rfl 6 (by decide) (ht0 _ wd1) (fun _ h9 => h9) rfl (by decide +kernel) rfl rfl (Nat.le_of_ble_eq_true rfl) dX4_clear_32 (fun H locs hP hD hS => ?_)
  have hP : va_P D vwCl (wX4_clear cy aH qH qU (upd (upd (upd (upd (upd (upd (upd vH 0 (0 : Int32)) 1 (0 : Int32)) 2 (0 : Int32)) 3 (0 : Int32)) 4 (0 : Int32)) 5 (0 : Int32)) 6 (0 : Int32)) vU vH_next vH_width) H := hP
  have hD : va_D A (wX4_clear cy aH qH qU (upd (upd (upd (upd (upd (upd (upd vH 0 (0 : Int32)) 1 (0 : Int32)) 2 (0 : Int32)) 3 (0 : Int32)) 4 (0 : Int32)) 5 (0 : Int32)) 6 (0 : Int32)) vU vH_next vH_width) := hD
  refine lv_aload_n hx hb dX4_clear_35 rfl (lv_at hl 0 rfl) ?_
  refine va_get (D := D) (ci := 3) (v := .ref (qH 7)) (C := RX4) (T := TX4) (N := 20) hx hb ht0 niX4 hown hK hP 0 rfl rfl 7 (by decide) (ht0 _ wd249) (fun _ h9 => h9) rfl dX4_clear_36 ?_
  obtain ⟨vU_39, hc39, hok⟩ := k_bind hok
  refine kCv (wc := (wX7_clear cy (qH 7) qU vU)) (wc2 := (wX7_clear cy (qH 7) qU vU_39)) (wr := [(aH, oX4 (upd (upd (upd (upd (upd (upd (upd vH 0 (0 : Int32)) 1 (0 : Int32)) 2 (0 : Int32)) 3 (0 : Int32)) 4 (0 : Int32)) 5 (0 : Int32)) 6 (0 : Int32)) qH), (qH 10, rI cy 36 vH_next), (qH 11, rI cy 36 vH_width)]) (ws2 := (wX4_clear cy aH qH qU (upd (upd (upd (upd (upd (upd (upd vH 0 (0 : Int32)) 1 (0 : Int32)) 2 (0 : Int32)) 3 (0 : Int32)) 4 (0 : Int32)) 5 (0 : Int32)) 6 (0 : Int32)) vU_39 vH_next vH_width)) (kRunV (As := []) (rest := []) ⟨hx, hb, hml, hown, ht0⟩ (kX7_clear l D cy _ (qH 7) qU vU vU_39 hc39 _ rfl) (cwV 0 ht0 (gV wd250 wd251 wd252 wd218 wd253) rfl rfl rfl (by decide +kernel) ⟨Nat.le_of_ble_eq_true rfl, Nat.le_of_ble_eq_true rfl⟩) hK hN hP hD [1] rfl (by decide) 1 6 rfl rfl rfl hl.1 rfl (Nat.le_of_ble_eq_true rfl) dX4_clear_39 ⟨Nat.zero_le _, Nat.zero_le _⟩) hP hD hS hA [1] [0, 2, 3] rfl rfl (by decide) (by decide) [0, 3, 1, 2] (by decide) rfl rfl (fun H locs hP hD hS => ?_)
  refine lv_aload_n hx hb dX4_clear_42 rfl (lv_at hl 0 rfl) ?_
  refine va_get (D := D) (ci := 3) (v := .ref (qH 10)) (C := RX4) (T := TX4) (N := 20) hx hb ht0 niX4 hown hK hP 0 rfl rfl 10 (by decide) (ht0 _ wd127) (fun _ h9 => h9) rfl dX4_clear_43 ?_
  refine lv_iconst (v := 0) hx hb dX4_clear_46 (by decide) ?_
  obtain ⟨p0_47, hc47, hok⟩ := k_bind hok
  refine kCv (wc := (wJ7_fill_53178 cy (qH 10) 36 vH_next)) (wc2 := (wJ7_fill_53178 cy (qH 10) 36 p0_47)) (wr := [(aH, oX4 (upd (upd (upd (upd (upd (upd (upd vH 0 (0 : Int32)) 1 (0 : Int32)) 2 (0 : Int32)) 3 (0 : Int32)) 4 (0 : Int32)) 5 (0 : Int32)) 6 (0 : Int32)) qH), (qH 7, oX7 vU_39 qU), (qH 11, rI cy 36 vH_width)]) (ws2 := (wX4_clear cy aH qH qU (upd (upd (upd (upd (upd (upd (upd vH 0 (0 : Int32)) 1 (0 : Int32)) 2 (0 : Int32)) 3 (0 : Int32)) 4 (0 : Int32)) 5 (0 : Int32)) 6 (0 : Int32)) vU_39 p0_47 vH_width)) (kRunS (As := [.ref (qH 10), .int 0]) (rest := []) ⟨hx, hb, hml, hown, ht0⟩ (kJ7_fill_53178 l D cy _ (qH 10) 36 vH_next (0 : Int32) p0_47 hc47 _ rfl) (va_cwS 2 ht0 (gS wd254 wd30 wd31 wd32) rfl rfl rfl (by decide +kernel) ⟨Nat.le_of_ble_eq_true rfl, Nat.le_of_ble_eq_true rfl⟩) hK hN hP hD [2] rfl (by decide) rfl hl.1 rfl (Nat.le_of_ble_eq_true rfl) dX4_clear_47 ⟨Nat.zero_le _, Nat.zero_le _⟩) hP hD hS hA [2] [0, 1, 3] rfl rfl (by decide) (by decide) [0, 1, 3, 2] (by decide) rfl rfl (fun H locs hP hD hS => ?_)
  refine lv_aload_n hx hb dX4_clear_50 rfl (lv_at hl 0 rfl) ?_
  refine va_get (D := D) (ci := 3) (v := .ref (qH 11)) (C := RX4) (T := TX4) (N := 20) hx hb ht0 niX4 hown hK hP 0 rfl rfl 11 (by decide) (ht0 _ wd129) (fun _ h9 => h9) rfl dX4_clear_51 ?_
  refine lv_bipush (v := 10) hx hb dX4_clear_54 (by decide) ?_
  obtain ⟨p0_56, hc56, hok⟩ := k_bind hok
  refine kCv (wc := (wJ7_fill_53178 cy (qH 11) 36 vH_width)) (wc2 := (wJ7_fill_53178 cy (qH 11) 36 p0_56)) (wr := [(aH, oX4 (upd (upd (upd (upd (upd (upd (upd vH 0 (0 : Int32)) 1 (0 : Int32)) 2 (0 : Int32)) 3 (0 : Int32)) 4 (0 : Int32)) 5 (0 : Int32)) 6 (0 : Int32)) qH), (qH 7, oX7 vU_39 qU), (qH 10, rI cy 36 p0_47)]) (ws2 := (wX4_clear cy aH qH qU (upd (upd (upd (upd (upd (upd (upd vH 0 (0 : Int32)) 1 (0 : Int32)) 2 (0 : Int32)) 3 (0 : Int32)) 4 (0 : Int32)) 5 (0 : Int32)) 6 (0 : Int32)) vU_39 p0_47 p0_56)) (kRunS (As := [.ref (qH 11), .int 10]) (rest := []) ⟨hx, hb, hml, hown, ht0⟩ (kJ7_fill_53178 l D cy _ (qH 11) 36 vH_width (10 : Int32) p0_56 hc56 _ rfl) (va_cwS 2 ht0 (gS wd254 wd30 wd31 wd32) rfl rfl rfl (by decide +kernel) ⟨Nat.le_of_ble_eq_true rfl, Nat.le_of_ble_eq_true rfl⟩) hK hN hP hD [3] rfl (by decide) rfl hl.1 rfl (Nat.le_of_ble_eq_true rfl) dX4_clear_56 ⟨Nat.zero_le _, Nat.zero_le _⟩) hP hD hS hA [3] [0, 1, 2] rfl rfl (by decide) (by decide) [0, 1, 2, 3] (by decide) rfl rfl (fun H locs hP hD hS => ?_)
  cases hok
  exact W.vret hx hb hr (fun t ht hW => ⟨⟨(), rfl, trivial, by rw [ht]; exact hP, va_K.moved hW.alike hK, hD⟩, hS.F ht⟩) hS.2.2 dX4_clear_59
