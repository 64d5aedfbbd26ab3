def wsX1_thingsIn : List Cond := .code yX1_thingsIn cX1_thingsIn 5 (some .int) :: W0
abbrev wX1_thingsIn (cy : Nat → ClassId) (aD : Nat) (qD : Nat → Nat) (vD : Nat → Int32) (vD_now : Nat → Int32) : va_W := [(aD, oX1 vD qD), (qD 0, rI cy 9 vD_now)]
set_option maxHeartbeats 4000000 in
set_option maxRecDepth 100000 in
theorem kX1_thingsIn (l : Launch) (D : va_G) (cy : Nat → ClassId) (sz : Nat) (aD : Nat) (qD : Nat → Nat) (vD : Nat → Int32) (vD_now : Nat → Int32) (x1 : Int32) (x2 : Int32) (zr : Int32) (hok : fX1_thingsIn vD vD_now x1 x2 = some zr) (A : Nat → Prop) (hAe : va_A (wX1_thingsIn cy aD qD vD vD_now) sz = A) : Met l yX1_thingsIn wsX1_thingsIn ({ frames := 1, cells := 0, slots := 0, locals := 20 } : Room) (kPre D cy [.ref aD, .int x1, .int x2] (wX1_thingsIn cy aD qD vD vD_now) sz) (kQi D cy zr A (wX1_thingsIn cy aD qD vD vD_now)) 0 0 A := by
  refine Met.ofW (cc := cX1_thingsIn) (maxL := 5) (ret := (some .int)) (by decide) rfl ?_
  intro p e s m args below meth c s₁ B hml hv
  obtain ⟨rfl, hsz, hP, hK, hD0, hN⟩ := hv
  have hx := B.exec
  have hb := B.bytes
  have hr := B.returns
  have ht0 : ∀ w ∈ W0, w.before _ s = true := fun w h => atoms_spec (ws := wsX1_thingsIn) B.pre w (List.mem_cons_of_mem _ h)
  have hown : s.vm.findClass RX1 = some m.cls := findClass_of_methodNamed B.named
  have hlocks := B.notSynchronized
  subst hsz
  have hD : va_D A (wX1_thingsIn cy aD qD vD vD_now) := by rw [← hAe]; exact hD0.self
  have hA : ∀ q : Nat, s.heap.size ≤ q → A q := fun q h => by rw [← hAe]; exact Or.inr h
  have hS : va_S A s.heap s.heap [] := va_S.rf
  have hl := lv_entry ([.ref aD, .int x1, .int x2]) (n := 5) (Nat.le_of_ble_eq_true rfl)
  rw [lg_entry_eq]
  generalize (lg_sl ([.ref aD, .int x1, .int x2]) ++ List.replicate (5 - (lg_sl ([.ref aD, .int x1, .int x2])).length) Slot.unset).toArray = ls at hl ⊢
  have hl : lv_has ls 5 [(0, .ref aD), (1, .int x1), (2, .int x2)] := hl
  generalize hQe : MQ below (kQi D cy zr A (wX1_thingsIn cy aD qD vD vD_now)) ([.ref aD, .int x1, .int x2] : List Value).toArray s 0 0 A = Q
  have J45 : ∀ (y3_45 : Int32), ∀ (H : Heap) (locs : List Loc) (ls : Array Slot), va_P D vwCl (wX1_thingsIn cy aD qD vD vD_now) H → va_D A (wX1_thingsIn cy aD qD vD vD_now) → va_S A s.heap H locs → lv_has ls 5 [(3, .int y3_45)] → fX1_thingsIn_J45 y3_45 = some zr → W p l e ({ frames := 1, cells := 0, slots := 0, locals := 20 } : Room) s m ([.ref aD, .int x1, .int x2] : List Value).toArray below meth c H locs 0 0 Q (F0 m 45 ls []) := by
    intro y3_45 H locs ls hP hD hS hl hok
    unfold fX1_thingsIn_J45 at hok
    refine lv_iload_n hx hb dX1_thingsIn_45 rfl (lv_at hl 0 rfl) ?_
    cases hok
    subst hQe; exact W.iret hx hb hr (fun t ht hW => ⟨⟨_, (), rfl, rfl, by rw [ht]; exact hP, va_K.moved hW.alike hK, hD⟩, hS.F ht⟩) hS.2.2 dX1_thingsIn_46
  have L5 : ∀ (fuel : Nat) (y3_5 : Int32) (y4_5 : Int32), ∀ (H : Heap) (locs : List Loc) (ls : Array Slot), va_P D vwCl (wX1_thingsIn cy aD qD vD vD_now) H → va_D A (wX1_thingsIn cy aD qD vD vD_now) → va_S A s.heap H locs → lv_has ls 5 [(0, .ref aD), (1, .int x1), (2, .int x2), (3, .int y3_5), (4, .int y4_5)] → lp (fX1_thingsIn_B5 vD_now x1 x2) fuel (y3_5, y4_5) = some zr → W p l e ({ frames := 1, cells := 0, slots := 0, locals := 20 } : Room) s m ([.ref aD, .int x1, .int x2] : List Value).toArray below meth c H locs 0 0 Q (F0 m 5 ls []) := by
    intro fuel
    induction fuel with
    | zero => intro y3_5 y4_5 H locs ls hP hD hS hl hok; exact (lp_0 hok).elim
    | succ fuel ih5 =>
      intro y3_5 y4_5 H locs ls hP hD hS hl hok
      obtain ⟨y5, hok, hL5, hR5⟩ := lp_step hok
      have J39 : ∀ (y3_39 : Int32), ∀ (H : Heap) (locs : List Loc) (ls : Array Slot), va_P D vwCl (wX1_thingsIn cy aD qD vD vD_now) H → va_D A (wX1_thingsIn cy aD qD vD vD_now) → va_S A s.heap H locs → lv_has ls 5 [(0, .ref aD), (1, .int x1), (2, .int x2), (3, .int y3_39), (4, .int y4_5)] → fX1_thingsIn_J39 y4_5 y3_39 = some y5 → W p l e ({ frames := 1, cells := 0, slots := 0, locals := 20 } : Room) s m ([.ref aD, .int x1, .int x2] : List Value).toArray below meth c H locs 0 0 Q (F0 m 39 ls []) := by
        intro y3_39 H locs ls hP hD hS hl hok
        unfold fX1_thingsIn_J39 at hok
        refine lv_iinc (v := (y4_5 + 1)) (lv' := [(4, .int (y4_5 + 1)), (0, .ref aD), (1, .int x1), (2, .int x2), (3, .int y3_39)]) hx hb dX1_thingsIn_39 hl (k := 4) rfl (by first | rfl | decide) (by decide) rfl (fun ls hl => ?_)
        refine lv_goto (tgt := 5) hx hb dX1_thingsIn_42 (by decide) ?_
        exact ih5 y3_39 (y4_5 + 1) H locs ls hP hD hS (lv_sub hl [1, 2, 3, 4, 0] rfl) (hR5 _ (Option.some.inj hok).symm)
      unfold fX1_thingsIn_B5 at hok
      try dsimp only at hok
      refine lv_iload hx hb dX1_thingsIn_5 (lv_at hl 4 rfl) ?_
      refine lv_iload_n hx hb dX1_thingsIn_7 rfl (lv_at hl 2 rfl) ?_
      refine lv_icmp_ge (tgt := 45) hx hb dX1_thingsIn_8 (by decide) (fun c8 => ?_) (fun c8 => ?_)
      · have hok := k_pos c8 hok
        obtain ⟨e5, hok, he5⟩ := ex_some hok
        have hok := hok.trans (congrArg some (hL5 _ he5))
        exact J45 y3_5 H locs ls hP hD hS (lv_sub hl [3] rfl) hok
      · have hok := k_neg c8 hok
        refine lv_iload hx hb dX1_thingsIn_11 (lv_at hl 4 rfl) ?_
        refine lv_bipush (v := 7) hx hb dX1_thingsIn_13 (by decide) ?_
        refine lv_icmp_ge (tgt := 45) hx hb dX1_thingsIn_15 (by decide) (fun c15 => ?_) (fun c15 => ?_)
        · have hok := k_pos c15 hok
          obtain ⟨e5, hok, he5⟩ := ex_some hok
          have hok := hok.trans (congrArg some (hL5 _ he5))
          exact J45 y3_5 H locs ls hP hD hS (lv_sub hl [3] rfl) hok
        · have hok := k_neg c15 hok
          refine lv_aload_n hx hb dX1_thingsIn_18 rfl (lv_at hl 0 rfl) ?_
          refine va_get (D := D) (ci := 1) (v := .ref (qD 0)) (C := RX1) (T := TX1) (N := 6) hx hb ht0 niX1 hown hK hP 0 rfl rfl 0 (by decide) (ht0 _ wd50) (fun _ h9 => h9) rfl dX1_thingsIn_19 ?_
          refine lv_iload hx hb dX1_thingsIn_22 (lv_at hl 4 rfl) ?_
          obtain ⟨g24, hok⟩ := gd_some hok
          refine va_iald hx hb hK hP 1 0 rfl rfl (okI_in g24) dX1_thingsIn_24 ?_
          obtain ⟨r25, hc25, hok⟩ := k_bind hok
          refine kCi (wc := (wX8_ringOfCell cy )) (wc2 := (wX8_ringOfCell cy )) (wr := [(aD, oX1 vD qD), (qD 0, rI cy 9 vD_now)]) (ws2 := (wX1_thingsIn cy aD qD vD vD_now)) (kRunSN (As := [.int (vD_now y4_5.toNatClampNeg)]) (rest := []) ⟨hx, hb, hml, hown, ht0⟩ (kX8_ringOfCell l D cy _ (vD_now y4_5.toNatClampNeg) r25 hc25 _ rfl) ⟨va_cnB 1 ht0 (gN wd56) rfl rfl rfl (hN _ (List.mem_of_getElem? (i := 0) rfl)) (ht0 _ wd57) (by decide +kernel) ⟨Nat.le_of_ble_eq_true rfl, Nat.le_of_ble_eq_true rfl⟩, ht0 _ wd58, trivial⟩ hK hN hP hD [] rfl (by decide) rfl hl.1 rfl (Nat.le_of_ble_eq_true rfl) dX1_thingsIn_25 ⟨Nat.zero_le _, Nat.zero_le _⟩) hP hD hS hA [] [0, 1] rfl rfl (by decide) (by decide) [0, 1] (by decide) rfl rfl (fun H locs hP hD hS => ?_)
          refine lv_iload_n hx hb dX1_thingsIn_28 rfl (lv_at hl 1 rfl) ?_
          refine lv_icmp_ne (tgt := 39) hx hb dX1_thingsIn_29 (by decide) (fun c29 => ?_) (fun c29 => ?_)
          · have hok := k_neg c29 hok
            exact J39 y3_5 H locs ls hP hD hS (lv_sub hl [0, 1, 2, 3, 4] rfl) hok
          · have hok := k_pos c29 hok
            refine lv_iload_n hx hb dX1_thingsIn_32 rfl (lv_at hl 3 rfl) ?_
            refine lv_iconst (v := 1) hx hb dX1_thingsIn_33 (by decide) ?_
            refine lv_iload hx hb dX1_thingsIn_34 (lv_at hl 4 rfl) ?_
            refine lv_ishl hx hb dX1_thingsIn_36 ?_
            refine lv_ior hx hb dX1_thingsIn_37 ?_
            refine lv_istore_n (lv' := [(3, .int (y3_5 ||| (isl (1 : Int32) y4_5))), (0, .ref aD), (1, .int x1), (2, .int x2), (4, .int y4_5)]) hx hb dX1_thingsIn_38 rfl hl (by decide) rfl (fun ls hl => ?_)
            exact J39 (y3_5 ||| (isl (1 : Int32) y4_5)) H locs ls hP hD hS (lv_sub hl [1, 2, 3, 0, 4] rfl) hok
  unfold fX1_thingsIn at hok
  obtain ⟨H, hH⟩ : ∃ H, H = s.heap := ⟨_, rfl⟩
  obtain ⟨locs, hlc⟩ : ∃ x : List Loc, x = [] := ⟨_, rfl⟩
  have hP : va_P D vwCl (wX1_thingsIn cy aD qD vD vD_now) H := by rw [hH]; exact hP
  have hS : va_S A s.heap H locs := by rw [hH, hlc]; exact hS
  rw [show W p l e _ s m _ below meth c s.heap [] = W p l e _ s m _ below meth c H locs from by rw [hH, hlc]]
  refine lv_iconst (v := 0) hx hb dX1_thingsIn_0 (by decide) ?_
  refine lv_istore_n (lv' := [(3, .int 0), (0, .ref aD), (1, .int x1), (2, .int x2)]) hx hb dX1_thingsIn_1 rfl hl (by decide) rfl (fun ls hl => ?_)
  refine lv_iconst (v := 0) hx hb dX1_thingsIn_2 (by decide) ?_
  refine lv_istore (lv' := [(4, .int 0), (3, .int 0), (0, .ref aD), (1, .int x1), (2, .int x2)]) hx hb dX1_thingsIn_3 hl (by decide) rfl (fun ls hl => ?_)
  exact L5 5000 (0 : Int32) (0 : Int32) H locs ls hP hD hS (lv_sub hl [2, 3, 4, 1, 0] rfl) hok
def wsX1_turnHeld : List Cond := .code yX1_turnHeld cX1_turnHeld 2 none :: W0
abbrev wX1_turnHeld (cy : Nat → ClassId) (aD : Nat) (qD : Nat → Nat) (vD : Nat → Int32) (vD_now : Nat → Int32) : va_W := [(aD, oX1 vD qD), (qD 0, rI cy 9 vD_now)]
set_option maxHeartbeats 4000000 in
set_option maxRecDepth 100000 in
theorem kX1_turnHeld (l : Launch) (D : va_G) (cy : Nat → ClassId) (sz : Nat) (aD : Nat) (qD : Nat → Nat) (vD : Nat → Int32) (vD_now : Nat → Int32) (x1 : Int32) (z_vD_now : Nat → Int32) (hok : fX1_turnHeld vD vD_now x1 = some z_vD_now) (A : Nat → Prop) (hAe : va_A (wX1_turnHeld cy aD qD vD vD_now) sz = A) : Met l yX1_turnHeld wsX1_turnHeld ({ frames := 0, cells := 0, slots := 0, locals := 0 } : Room) (kPre D cy [.ref aD, .int x1] (wX1_turnHeld cy aD qD vD vD_now) sz) (kQv D cy A (wX1_turnHeld cy aD qD vD z_vD_now)) 0 0 A := by
  refine Met.ofW (cc := cX1_turnHeld) (maxL := 2) (ret := none) (by decide) rfl ?_
  intro p e s m args below meth c s₁ B hml hv
  obtain ⟨rfl, hsz, hP, hK, hD0, hN⟩ := hv
  have hx := B.exec
  have hb := B.bytes
  have hr := B.returns
  have ht0 : ∀ w ∈ W0, w.before _ s = true := fun w h => atoms_spec (ws := wsX1_turnHeld) B.pre w (List.mem_cons_of_mem _ h)
  have hown : s.vm.findClass RX1 = some m.cls := findClass_of_methodNamed B.named
  have hlocks := B.notSynchronized
  subst hsz
  have hD : va_D A (wX1_turnHeld cy aD qD vD vD_now) := by rw [← hAe]; exact hD0.self
  have hA : ∀ q : Nat, s.heap.size ≤ q → A q := fun q h => by rw [← hAe]; exact Or.inr h
  have hS : va_S A s.heap s.heap [] := va_S.rf
  have hl := lv_entry ([.ref aD, .int x1]) (n := 2) (Nat.le_of_ble_eq_true rfl)
  rw [lg_entry_eq]
  generalize (lg_sl ([.ref aD, .int x1]) ++ List.replicate (2 - (lg_sl ([.ref aD, .int x1])).length) Slot.unset).toArray = ls at hl ⊢
  have hl : lv_has ls 2 [(0, .ref aD), (1, .int x1)] := hl
  unfold fX1_turnHeld at hok
  obtain ⟨H, hH⟩ : ∃ H, H = s.heap := ⟨_, rfl⟩
  obtain ⟨locs, hlc⟩ : ∃ x : List Loc, x = [] := ⟨_, rfl⟩
  have hP : va_P D vwCl (wX1_turnHeld cy aD qD vD vD_now) H := by rw [hH]; exact hP
  have hS : va_S A s.heap H locs := by rw [hH, hlc]; exact hS
  rw [show W p l e _ s m _ below meth c s.heap [] = W p l e _ s m _ below meth c H locs from by rw [hH, hlc]]
  refine lv_aload_n hx hb dX1_turnHeld_0 rfl (lv_at hl 0 rfl) ?_
  refine va_get (D := D) (ci := 1) (v := .ref (qD 0)) (C := RX1) (T := TX1) (N := 6) hx hb ht0 niX1 hown hK hP 0 rfl rfl 0 (by decide) (ht0 _ wd50) (fun _ h9 => h9) rfl dX1_turnHeld_1 ?_
  refine lv_bipush (v := 7) hx hb dX1_turnHeld_4 (by decide) ?_
  refine lv_dup2_11 hx hb dX1_turnHeld_6 rfl rfl ?_
  obtain ⟨g7, hok⟩ := gd_some hok
  refine va_iald hx hb hK hP 1 0 rfl rfl (okI_in g7) dX1_turnHeld_7 ?_
  refine lv_iconst (v := 1) hx hb dX1_turnHeld_8 (by decide) ?_
  refine lv_iload_n hx hb dX1_turnHeld_9 rfl (lv_at hl 1 rfl) ?_
  refine lv_ishl hx hb dX1_turnHeld_10 ?_
  refine lv_ixor hx hb dX1_turnHeld_11 ?_
  obtain ⟨g12, hok⟩ := gd_some hok
  refine va_iast hx hb hK hP hD hS 1 0 rfl rfl (okI_in g12) dX1_turnHeld_12 (fun H locs hP hD hS => ?_)
  have hP : va_P D vwCl (wX1_turnHeld cy aD qD vD (upd vD_now (7 : Int32).toNatClampNeg ((vD_now (7 : Int32).toNatClampNeg) ^^^ (isl (1 : Int32) x1)))) H := hP
  have hD : va_D A (wX1_turnHeld cy aD qD vD (upd vD_now (7 : Int32).toNatClampNeg ((vD_now (7 : Int32).toNatClampNeg) ^^^ (isl (1 : Int32) x1)))) := hD
  cases hok
  exact W.vret hx hb hr (fun t ht hW => ⟨⟨(), rfl, trivial, by rw [ht]; exact hP, va_K.moved hW.alike hK, hD⟩, hS.F ht⟩) hS.2.2 dX1_turnHeld_13
def wsX1_move : List Cond := .code yX1_move cX1_move 3 none :: W0
abbrev wX1_move (cy : Nat → ClassId) (aD : Nat) (qD : Nat → Nat) (vD : Nat → Int32) (vD_now : Nat → Int32) : va_W := [(aD, oX1 vD qD), (qD 0, rI cy 9 vD_now)]
set_option maxHeartbeats 4000000 in
set_option maxRecDepth 100000 in
theorem kX1_move (l : Launch) (D : va_G) (cy : Nat → ClassId) (sz : Nat) (aD : Nat) (qD : Nat → Nat) (vD : Nat → Int32) (vD_now : Nat → Int32) (x1 : Int32) (x2 : Int32) (z_vD_now : Nat → Int32) (hok : fX1_move vD vD_now x1 x2 = some z_vD_now) (A : Nat → Prop) (hAe : va_A (wX1_move cy aD qD vD vD_now) sz = A) : Met l yX1_move wsX1_move ({ frames := 0, cells := 0, slots := 0, locals := 0 } : Room) (kPre D cy [.ref aD, .int x1, .int x2] (wX1_move cy aD qD vD vD_now) sz) (kQv D cy A (wX1_move cy aD qD vD z_vD_now)) 0 0 A := by
  refine Met.ofW (cc := cX1_move) (maxL := 3) (ret := none) (by decide) rfl ?_
  intro p e s m args below meth c s₁ B hml hv
  obtain ⟨rfl, hsz, hP, hK, hD0, hN⟩ := hv
  have hx := B.exec
  have hb := B.bytes
  have hr := B.returns
  have ht0 : ∀ w ∈ W0, w.before _ s = true := fun w h => atoms_spec (ws := wsX1_move) B.pre w (List.mem_cons_of_mem _ h)
  have hown : s.vm.findClass RX1 = some m.cls := findClass_of_methodNamed B.named
  have hlocks := B.notSynchronized
  subst hsz
  have hD : va_D A (wX1_move cy aD qD vD vD_now) := by rw [← hAe]; exact hD0.self
  have hA : ∀ q : Nat, s.heap.size ≤ q → A q := fun q h => by rw [← hAe]; exact Or.inr h
  have hS : va_S A s.heap s.heap [] := va_S.rf
  have hl := lv_entry ([.ref aD, .int x1, .int x2]) (n := 3) (Nat.le_of_ble_eq_true rfl)
  rw [lg_entry_eq]
  generalize (lg_sl ([.ref aD, .int x1, .int x2]) ++ List.replicate (3 - (lg_sl ([.ref aD, .int x1, .int x2])).length) Slot.unset).toArray = ls at hl ⊢
  have hl : lv_has ls 3 [(0, .ref aD), (1, .int x1), (2, .int x2)] := hl
  generalize hQe : MQ below (kQv D cy A (wX1_move cy aD qD vD z_vD_now)) ([.ref aD, .int x1, .int x2] : List Value).toArray s 0 0 A = Q
  have J17 : ∀ (vD_now_17 : Nat → Int32), ∀ (H : Heap) (locs : List Loc) (ls : Array Slot), va_P D vwCl (wX1_move cy aD qD vD vD_now_17) H → va_D A (wX1_move cy aD qD vD vD_now_17) → va_S A s.heap H locs → lv_has ls 3 [] → fX1_move_J17 vD_now_17 = some z_vD_now → W p l e ({ frames := 0, cells := 0, slots := 0, locals := 0 } : Room) s m ([.ref aD, .int x1, .int x2] : List Value).toArray below meth c H locs 0 0 Q (F0 m 17 ls []) := by
    intro vD_now_17 H locs ls hP hD hS hl hok
    unfold fX1_move_J17 at hok
    cases hok
    subst hQe; exact W.vret hx hb hr (fun t ht hW => ⟨⟨(), rfl, trivial, by rw [ht]; exact hP, va_K.moved hW.alike hK, hD⟩, hS.F ht⟩) hS.2.2 dX1_move_17
  unfold fX1_move at hok
  obtain ⟨H, hH⟩ : ∃ H, H = s.heap := ⟨_, rfl⟩
  obtain ⟨locs, hlc⟩ : ∃ x : List Loc, x = [] := ⟨_, rfl⟩
  have hP : va_P D vwCl (wX1_move cy aD qD vD vD_now) H := by rw [hH]; exact hP
  have hS : va_S A s.heap H locs := by rw [hH, hlc]; exact hS
  rw [show W p l e _ s m _ below meth c s.heap [] = W p l e _ s m _ below meth c H locs from by rw [hH, hlc]]
  refine lv_iload_n hx hb dX1_move_0 rfl (lv_at hl 1 rfl) ?_
  refine lv_if_lt (tgt := 17) hx hb dX1_move_1 (by decide) (fun c1 => ?_) (fun c1 => ?_)
  · have hok := k_pos c1 hok
    exact J17 vD_now H locs ls hP hD hS (lv_sub hl [] rfl) hok
  · have hok := k_neg c1 hok
    refine lv_iload_n hx hb dX1_move_4 rfl (lv_at hl 1 rfl) ?_
    refine lv_bipush (v := 7) hx hb dX1_move_5 (by decide) ?_
    refine lv_icmp_ge (tgt := 17) hx hb dX1_move_7 (by decide) (fun c7 => ?_) (fun c7 => ?_)
    · have hok := k_pos c7 hok
      exact J17 vD_now H locs ls hP hD hS (lv_sub hl [] rfl) hok
    · have hok := k_neg c7 hok
      refine lv_aload_n hx hb dX1_move_10 rfl (lv_at hl 0 rfl) ?_
      refine va_get (D := D) (ci := 1) (v := .ref (qD 0)) (C := RX1) (T := TX1) (N := 6) hx hb ht0 niX1 hown hK hP 0 rfl rfl 0 (by decide) (ht0 _ wd50) (fun _ h9 => h9) rfl dX1_move_11 ?_
      refine lv_iload_n hx hb dX1_move_14 rfl (lv_at hl 1 rfl) ?_
      refine lv_iload_n hx hb dX1_move_15 rfl (lv_at hl 2 rfl) ?_
      obtain ⟨g16, hok⟩ := gd_some hok
      refine va_iast hx hb hK hP hD hS 1 0 rfl rfl (okI_in g16) dX1_move_16 (fun H locs hP hD hS => ?_)
      have hP : va_P D vwCl (wX1_move cy aD qD vD (upd vD_now x1.toNatClampNeg x2)) H := hP
      have hD : va_D A (wX1_move cy aD qD vD (upd vD_now x1.toNatClampNeg x2)) := hD
      exact J17 (upd vD_now x1.toNatClampNeg x2) H locs ls hP hD hS (lv_sub hl [] rfl) hok
def wsX1_nextNight : List Cond := .code yX1_nextNight cX1_nextNight 1 none :: W0
abbrev wX1_nextNight (cy : Nat → ClassId) (aD : Nat) (qD : Nat → Nat) (vD : Nat → Int32) (vD_now : Nat → Int32) : va_W := [(aD, oX1 vD qD), (qD 0, rI cy 9 vD_now)]
set_option maxHeartbeats 4000000 in
set_option maxRecDepth 100000 in
theorem kX1_nextNight (l : Launch) (D : va_G) (cy : Nat → ClassId) (sz : Nat) (aD : Nat) (qD : Nat → Nat) (vD : Nat → Int32) (vD_now : Nat → Int32) (z_vD_now : Nat → Int32) (hok : fX1_nextNight vD vD_now = some z_vD_now) (A : Nat → Prop) (hAe : va_A (wX1_nextNight cy aD qD vD vD_now) sz = A) : Met l yX1_nextNight wsX1_nextNight ({ frames := 0, cells := 0, slots := 0, locals := 0 } : Room) (kPre D cy [.ref aD] (wX1_nextNight cy aD qD vD vD_now) sz) (kQv D cy A (wX1_nextNight cy aD qD vD z_vD_now)) 0 0 A := by
  refine Met.ofW (cc := cX1_nextNight) (maxL := 1) (ret := none) (by decide) rfl ?_
  intro p e s m args below meth c s₁ B hml hv
  obtain ⟨rfl, hsz, hP, hK, hD0, hN⟩ := hv
  have hx := B.exec
  have hb := B.bytes
  have hr := B.returns
  have ht0 : ∀ w ∈ W0, w.before _ s = true := fun w h => atoms_spec (ws := wsX1_nextNight) B.pre w (List.mem_cons_of_mem _ h)
  have hown : s.vm.findClass RX1 = some m.cls := findClass_of_methodNamed B.named
  have hlocks := B.notSynchronized
  subst hsz
  have hD : va_D A (wX1_nextNight cy aD qD vD vD_now) := by rw [← hAe]; exact hD0.self
  have hA : ∀ q : Nat, s.heap.size ≤ q → A q := fun q h => by rw [← hAe]; exact Or.inr h
  have hS : va_S A s.heap s.heap [] := va_S.rf
  have hl := lv_entry ([.ref aD]) (n := 1) (Nat.le_of_ble_eq_true rfl)
  rw [lg_entry_eq]
  generalize (lg_sl ([.ref aD]) ++ List.replicate (1 - (lg_sl ([.ref aD])).length) Slot.unset).toArray = ls at hl ⊢
  have hl : lv_has ls 1 [(0, .ref aD)] := hl
  unfold fX1_nextNight at hok
  obtain ⟨H, hH⟩ : ∃ H, H = s.heap := ⟨_, rfl⟩
  obtain ⟨locs, hlc⟩ : ∃ x : List Loc, x = [] := ⟨_, rfl⟩
  have hP : va_P D vwCl (wX1_nextNight cy aD qD vD vD_now) H := by rw [hH]; exact hP
  have hS : va_S A s.heap H locs := by rw [hH, hlc]; exact hS
  rw [show W p l e _ s m _ below meth c s.heap [] = W p l e _ s m _ below meth c H locs from by rw [hH, hlc]]
  refine lv_aload_n hx hb dX1_nextNight_0 rfl (lv_at hl 0 rfl) ?_
  refine va_get (D := D) (ci := 1) (v := .ref (qD 0)) (C := RX1) (T := TX1) (N := 6) hx hb ht0 niX1 hown hK hP 0 rfl rfl 0 (by decide) (ht0 _ wd50) (fun _ h9 => h9) rfl dX1_nextNight_1 ?_
  refine lv_bipush (v := 8) hx hb dX1_nextNight_4 (by decide) ?_
  refine lv_dup2_11 hx hb dX1_nextNight_6 rfl rfl ?_
  obtain ⟨g7, hok⟩ := gd_some hok
  refine va_iald hx hb hK hP 1 0 rfl rfl (okI_in g7) dX1_nextNight_7 ?_
  refine lv_iconst (v := 1) hx hb dX1_nextNight_8 (by decide) ?_
  refine lv_iadd hx hb dX1_nextNight_9 ?_
  obtain ⟨g10, hok⟩ := gd_some hok
  refine va_iast hx hb hK hP hD hS 1 0 rfl rfl (okI_in g10) dX1_nextNight_10 (fun H locs hP hD hS => ?_)
  have hP : va_P D vwCl (wX1_nextNight cy aD qD vD (upd vD_now (8 : Int32).toNatClampNeg ((vD_now (8 : Int32).toNatClampNeg) + (1 : Int32)))) H := hP
  have hD : va_D A (wX1_nextNight cy aD qD vD (upd vD_now (8 : Int32).toNatClampNeg ((vD_now (8 : Int32).toNatClampNeg) + (1 : Int32)))) := hD
  cases hok
  exact W.vret hx hb hr (fun t ht hW => ⟨⟨(), rfl, trivial, by rw [ht]; exact hP, va_K.moved hW.alike hK, hD⟩, hS.F ht⟩) hS.2.2 dX1_nextNight_11
def wsX1_keep : List Cond := .code yX1_keep cX1_keep 1 none :: W0
abbrev wX1_keep (cy : Nat → ClassId) (aD : Nat) (qD : Nat → Nat) (pD_past : Nat → Nat) (vD : Nat → Int32) (vD_past : Nat → Nat → Int32) (vD_now : Nat → Int32) : va_W := [(aD, oX1 vD qD), (qD 1, rR cy 16 (fun j => some (pD_past j))), (pD_past 0, rI cy 9 (vD_past 0)), (pD_past 1, rI cy 9 (vD_past 1)), (pD_past 2, rI cy 9 (vD_past 2)), (pD_past 3, rI cy 9 (vD_past 3)), (pD_past 4, rI cy 9 (vD_past 4)), (pD_past 5, rI cy 9 (vD_past 5)), (pD_past 6, rI cy 9 (vD_past 6)), (pD_past 7, rI cy 9 (vD_past 7)), (pD_past 8, rI cy 9 (vD_past 8)), (pD_past 9, rI cy 9 (vD_past 9)), (pD_past 10, rI cy 9 (vD_past 10)), (pD_past 11, rI cy 9 (vD_past 11)), (pD_past 12, rI cy 9 (vD_past 12)), (pD_past 13, rI cy 9 (vD_past 13)), (pD_past 14, rI cy 9 (vD_past 14)), (pD_past 15, rI cy 9 (vD_past 15)), (qD 0, rI cy 9 vD_now)]
theorem gatX1_keep_vD_past {cy : Nat → ClassId} (aD : Nat) (qD : Nat → Nat) (pD_past : Nat → Nat) (vD : Nat → Int32) (vD_past : Nat → Nat → Int32) (vD_now : Nat → Int32) {k : Nat} (h : k < 16) : (wX1_keep cy aD qD pD_past vD vD_past vD_now)[2 + k]? = some (pD_past k, rI cy 9 (vD_past k)) := by
  rcases (show k = 0 ∨ k = 1 ∨ k = 2 ∨ k = 3 ∨ k = 4 ∨ k = 5 ∨ k = 6 ∨ k = 7 ∨ k = 8 ∨ k = 9 ∨ k = 10 ∨ k = 11 ∨ k = 12 ∨ k = 13 ∨ k = 14 ∨ k = 15 by omega) with rfl | rfl | rfl | rfl | rfl | rfl | rfl | rfl | rfl | rfl | rfl | rfl | rfl | rfl | rfl | rfl <;> rfl
theorem gsetX1_keep_vD_past {cy : Nat → ClassId} (aD : Nat) (qD : Nat → Nat) (pD_past : Nat → Nat) (vD : Nat → Int32) (vD_past : Nat → Nat → Int32) (vD_now : Nat → Int32) {k : Nat} (h : k < 16) {f : Nat → Int32} : (wX1_keep cy aD qD pD_past vD vD_past vD_now).set (2 + k) (pD_past k, rI cy 9 f) = wX1_keep cy aD qD pD_past vD (va_up vD_past k f) vD_now := by
  rcases (show k = 0 ∨ k = 1 ∨ k = 2 ∨ k = 3 ∨ k = 4 ∨ k = 5 ∨ k = 6 ∨ k = 7 ∨ k = 8 ∨ k = 9 ∨ k = 10 ∨ k = 11 ∨ k = 12 ∨ k = 13 ∨ k = 14 ∨ k = 15 by omega) with rfl | rfl | rfl | rfl | rfl | rfl | rfl | rfl | rfl | rfl | rfl | rfl | rfl | rfl | rfl | rfl <;> rfl
set_option maxHeartbeats 4000000 in
set_option maxRecDepth 100000 in
theorem kX1_keep (l : Launch) (D : va_G) (cy : Nat → ClassId) (sz : Nat) (aD : Nat) (qD : Nat → Nat) (pD_past : Nat → Nat) (vD : Nat → Int32) (vD_past : Nat → Nat → Int32) (vD_now : Nat → Int32) (z_vD : Nat → Int32) (z_vD_past : Nat → Nat → Int32) (hok : fX1_keep vD vD_past vD_now = some (z_vD, z_vD_past)) (A : Nat → Prop) (hAe : va_A (wX1_keep cy aD qD pD_past vD vD_past vD_now) sz = A) : Met l yX1_keep wsX1_keep ({ frames := 1, cells := 0, slots := 0, locals := 40 } : Room) (kPre D cy [.ref aD] (wX1_keep cy aD qD pD_past vD vD_past vD_now) sz) (kQv D cy A (wX1_keep cy aD qD pD_past z_vD z_vD_past vD_now)) 0 0 A := by
  refine Met.ofW (cc := cX1_keep) (maxL := 1) (ret := none) (by decide) rfl ?_
  intro p e s m args below meth c s₁ B hml hv
  obtain ⟨rfl, hsz, hP, hK, hD0, hN⟩ := hv
  have hx := B.exec
  have hb := B.bytes
  have hr := B.returns
  have ht0 : ∀ w ∈ W0, w.before _ s = true := fun w h => atoms_spec (ws := wsX1_keep) B.pre w (List.mem_cons_of_mem _ h)
  have hown : s.vm.findClass RX1 = some m.cls := findClass_of_methodNamed B.named
  have hlocks := B.notSynchronized
  subst hsz
  have hD : va_D A (wX1_keep cy aD qD pD_past vD vD_past vD_now) := by rw [← hAe]; exact hD0.self
  have hA : ∀ q : Nat, s.heap.size ≤ q → A q := fun q h => by rw [← hAe]; exact Or.inr h
  have hS : va_S A s.heap s.heap [] := va_S.rf
  have hl := lv_entry ([.ref aD]) (n := 1) (Nat.le_of_ble_eq_true rfl)
  rw [lg_entry_eq]
  generalize (lg_sl ([.ref aD]) ++ List.replicate (1 - (lg_sl ([.ref aD])).length) Slot.unset).toArray = ls at hl ⊢
  have hl : lv_has ls 1 [(0, .ref aD)] := hl
  generalize hQe : MQ below (kQv D cy A (wX1_keep cy aD qD pD_past z_vD z_vD_past vD_now)) ([.ref aD] : List Value).toArray s 0 0 A = Q
  have J87 : ∀ (t0_87 : Int32) (vD_past_87 : Nat → Nat → Int32) (vD_87 : Nat → Int32), ∀ (H : Heap) (locs : List Loc) (ls : Array Slot), va_P D vwCl (wX1_keep cy aD qD pD_past vD_87 vD_past_87 vD_now) H → va_D A (wX1_keep cy aD qD pD_past vD_87 vD_past_87 vD_now) → va_S A s.heap H locs → lv_has ls 1 [] → fX1_keep_J87 t0_87 vD_past_87 vD_87 = some (z_vD, z_vD_past) → W p l e ({ frames := 1, cells := 0, slots := 0, locals := 40 } : Room) s m ([.ref aD] : List Value).toArray below meth c H locs 0 0 Q (F0 m 87 ls [.int t0_87, .ref aD]) := by
    intro t0_87 vD_past_87 vD_87 H locs ls hP hD hS hl hok
    unfold fX1_keep_J87 at hok
    refine va_put (D := D) (ci := 1) (v := .int t0_87) (ty := .int) (C := RX1) (T := TX1) (N := 6) hx hb ht0 niX1 tyX1 tyX1_ok nmX1 hown hK hP hD hS 0 rfl rfl 3 (by decide) (ht0 _ wd48) (fun _ h9 => h9) rfl (by decide +kernel) rfl rfl (Nat.le_of_ble_eq_true rfl) dX1_keep_87 (fun H locs hP hD hS => ?_)
    have hP : va_P D vwCl (wX1_keep cy aD qD pD_past (upd vD_87 3 t0_87) vD_past_87 vD_now) H := hP
    have hD : va_D A (wX1_keep cy aD qD pD_past (upd vD_87 3 t0_87) vD_past_87 vD_now) := hD
    cases hok
    subst hQe; exact W.vret hx hb hr (fun t ht hW => ⟨⟨(), rfl, trivial, by rw [ht]; exact hP, va_K.moved hW.alike hK, hD⟩, hS.F ht⟩) hS.2.2 dX1_keep_90
  have J63 : ∀ (t0_63 : Int32) (vD_past_63 : Nat → Nat → Int32) (vD_63 : Nat → Int32), ∀ (H : Heap) (locs : List Loc) (ls : Array Slot), va_P D vwCl (wX1_keep cy aD qD pD_past vD_63 vD_past_63 vD_now) H → va_D A (wX1_keep cy aD qD pD_past vD_63 vD_past_63 vD_now) → va_S A s.heap H locs → lv_has ls 1 [(0, .ref aD)] → fX1_keep_J63 t0_63 vD_past_63 vD_63 = some (z_vD, z_vD_past) → W p l e ({ frames := 1, cells := 0, slots := 0, locals := 40 } : Room) s m ([.ref aD] : List Value).toArray below meth c H locs 0 0 Q (F0 m 63 ls [.int t0_63, .ref aD]) := by
    intro t0_63 vD_past_63 vD_63 H locs ls hP hD hS hl hok
    unfold fX1_keep_J63 at hok
    refine va_put (D := D) (ci := 1) (v := .int t0_63) (ty := .int) (C := RX1) (T := TX1) (N := 6) hx hb ht0 niX1 tyX1 tyX1_ok nmX1 hown hK hP hD hS 0 rfl rfl 4 (by decide) (ht0 _ wd59) (fun _ h9 => h9) rfl (by decide +kernel) rfl rfl (Nat.le_of_ble_eq_true rfl) dX1_keep_63 (fun H locs hP hD hS => ?_)
    have hP : va_P D vwCl (wX1_keep cy aD qD pD_past (upd vD_63 4 t0_63) vD_past_63 vD_now) H := hP
    have hD : va_D A (wX1_keep cy aD qD pD_past (upd vD_63 4 t0_63) vD_past_63 vD_now) := hD
    refine lv_aload_n hx hb dX1_keep_66 rfl (lv_at hl 0 rfl) ?_
    refine lv_aload_n hx hb dX1_keep_67 rfl (lv_at hl 0 rfl) ?_
    refine va_get (D := D) (ci := 1) (v := .int (vD_63 3)) (C := RX1) (T := TX1) (N := 6) hx hb ht0 niX1 hown hK hP 0 rfl rfl 3 (by decide) (ht0 _ wd48) (fun _ h9 => h9) rfl dX1_keep_68 ?_
    refine lv_bipush (v := 16) hx hb dX1_keep_71 (by decide) ?_
    refine lv_icmp_ge (tgt := 85) hx hb dX1_keep_73 (by decide) (fun c73 => ?_) (fun c73 => ?_)
    · have hok := k_pos c73 hok
      refine lv_bipush (v := 16) hx hb dX1_keep_85 (by decide) ?_
      exact J87 (16 : Int32) vD_past_63 (upd vD_63 4 t0_63) H locs ls hP hD hS (lv_sub hl [] rfl) hok
    · have hok := k_neg c73 hok
      refine lv_aload_n hx hb dX1_keep_76 rfl (lv_at hl 0 rfl) ?_
      refine va_get (D := D) (ci := 1) (v := .int (vD_63 3)) (C := RX1) (T := TX1) (N := 6) hx hb ht0 niX1 hown hK hP 0 rfl rfl 3 (by decide) (ht0 _ wd48) (fun _ h9 => h9) rfl dX1_keep_77 ?_
      refine lv_iconst (v := 1) hx hb dX1_keep_80 (by decide) ?_
      refine lv_iadd hx hb dX1_keep_81 ?_
      refine lv_goto (tgt := 87) hx hb dX1_keep_82 (by decide) ?_
      exact J87 ((vD_63 3) + (1 : Int32)) vD_past_63 (upd vD_63 4 t0_63) H locs ls hP hD hS (lv_sub hl [] rfl) hok
  have J21 : ∀ (vD_21 : Nat → Int32), ∀ (H : Heap) (locs : List Loc) (ls : Array Slot), va_P D vwCl (wX1_keep cy aD qD pD_past vD_21 vD_past vD_now) H → va_D A (wX1_keep cy aD qD pD_past vD_21 vD_past vD_now) → va_S A s.heap H locs → lv_has ls 1 [(0, .ref aD)] → fX1_keep_J21 vD_past vD_now vD_21 = some (z_vD, z_vD_past) → W p l e ({ frames := 1, cells := 0, slots := 0, locals := 40 } : Room) s m ([.ref aD] : List Value).toArray below meth c H locs 0 0 Q (F0 m 21 ls []) := by
    intro vD_21 H locs ls hP hD hS hl hok
    unfold fX1_keep_J21 at hok
    refine lv_aload_n hx hb dX1_keep_21 rfl (lv_at hl 0 rfl) ?_
    refine va_get (D := D) (ci := 1) (v := .ref (qD 0)) (C := RX1) (T := TX1) (N := 6) hx hb ht0 niX1 hown hK hP 0 rfl rfl 0 (by decide) (ht0 _ wd50) (fun _ h9 => h9) rfl dX1_keep_22 ?_
    refine lv_iconst (v := 0) hx hb dX1_keep_25 (by decide) ?_
    refine lv_aload_n hx hb dX1_keep_26 rfl (lv_at hl 0 rfl) ?_
    refine va_get (D := D) (ci := 1) (v := .ref (qD 1)) (C := RX1) (T := TX1) (N := 6) hx hb ht0 niX1 hown hK hP 0 rfl rfl 1 (by decide) (ht0 _ wd60) (fun _ h9 => h9) rfl dX1_keep_27 ?_
    refine lv_aload_n hx hb dX1_keep_30 rfl (lv_at hl 0 rfl) ?_
    refine va_get (D := D) (ci := 1) (v := .int (vD_21 4)) (C := RX1) (T := TX1) (N := 6) hx hb ht0 niX1 hown hK hP 0 rfl rfl 4 (by decide) (ht0 _ wd59) (fun _ h9 => h9) rfl dX1_keep_31 ?_
    obtain ⟨g34, hok⟩ := gd_some hok
    refine va_aldA hx hb hK hP 1 4 rfl rfl (okI_in g34) dX1_keep_34 ?_
    refine lv_iconst (v := 0) hx hb dX1_keep_35 (by decide) ?_
    refine lv_bipush (v := 9) hx hb dX1_keep_36 (by decide) ?_
    refine va_copyi hx hb (hml.trans hl.1.symm) hown (ht0 _ wd61) (ht0 _ wd62) (ht0 _ wd63) (ht0 _ wd64) hK hP hD hS 18 (2 + (vD_21 4).toNatClampNeg) 0 0 rfl (gatX1_keep_vD_past aD qD pD_past vD_21 vD_past vD_now (okI_lt g34)) rfl rfl rfl (by decide) (by decide) (by decide) (by decide) (by decide) (fun _ _ => rfl) (Nat.le_of_ble_eq_true rfl) (Nat.le_of_ble_eq_true rfl) dX1_keep_38 (fun H locs hP hD hS => ?_)
    rw [gsetX1_keep_vD_past aD qD pD_past vD_21 vD_past vD_now (okI_lt g34)] at hP hD
    have hP : va_P D vwCl (wX1_keep cy aD qD pD_past vD_21 (va_up vD_past ((vD_21 4).toNatClampNeg) (va_cpy vD_now (vD_past ((vD_21 4).toNatClampNeg)) (0 : Int32).toNatClampNeg (0 : Int32).toNatClampNeg (9 : Int32).toNatClampNeg)) vD_now) H := hP
    have hD : va_D A (wX1_keep cy aD qD pD_past vD_21 (va_up vD_past ((vD_21 4).toNatClampNeg) (va_cpy vD_now (vD_past ((vD_21 4).toNatClampNeg)) (0 : Int32).toNatClampNeg (0 : Int32).toNatClampNeg (9 : Int32).toNatClampNeg)) vD_now) := hD
    refine lv_aload_n hx hb dX1_keep_41 rfl (lv_at hl 0 rfl) ?_
    refine lv_aload_n hx hb dX1_keep_42 rfl (lv_at hl 0 rfl) ?_
    refine va_get (D := D) (ci := 1) (v := .int (vD_21 4)) (C := RX1) (T := TX1) (N := 6) hx hb ht0 niX1 hown hK hP 0 rfl rfl 4 (by decide) (ht0 _ wd59) (fun _ h9 => h9) rfl dX1_keep_43 ?_
    refine lv_iconst (v := 1) hx hb dX1_keep_46 (by decide) ?_
    refine lv_iadd hx hb dX1_keep_47 ?_
    refine lv_bipush (v := 16) hx hb dX1_keep_48 (by decide) ?_
    refine lv_icmp_ge (tgt := 62) hx hb dX1_keep_50 (by decide) (fun c50 => ?_) (fun c50 => ?_)
    · have hok := k_pos c50 hok
      refine lv_iconst (v := 0) hx hb dX1_keep_62 (by decide) ?_
      exact J63 (0 : Int32) (va_up vD_past ((vD_21 4).toNatClampNeg) (va_cpy vD_now (vD_past ((vD_21 4).toNatClampNeg)) (0 : Int32).toNatClampNeg (0 : Int32).toNatClampNeg (9 : Int32).toNatClampNeg)) vD_21 H locs ls hP hD hS (lv_sub hl [0] rfl) hok
    · have hok := k_neg c50 hok
      refine lv_aload_n hx hb dX1_keep_53 rfl (lv_at hl 0 rfl) ?_
      refine va_get (D := D) (ci := 1) (v := .int (vD_21 4)) (C := RX1) (T := TX1) (N := 6) hx hb ht0 niX1 hown hK hP 0 rfl rfl 4 (by decide) (ht0 _ wd59) (fun _ h9 => h9) rfl dX1_keep_54 ?_
      refine lv_iconst (v := 1) hx hb dX1_keep_57 (by decide) ?_
      refine lv_iadd hx hb dX1_keep_58 ?_
      refine lv_goto (tgt := 63) hx hb dX1_keep_59 (by decide) ?_
      exact J63 ((vD_21 4) + (1 : Int32)) (va_up vD_past ((vD_21 4).toNatClampNeg) (va_cpy vD_now (vD_past ((vD_21 4).toNatClampNeg)) (0 : Int32).toNatClampNeg (0 : Int32).toNatClampNeg (9 : Int32).toNatClampNeg)) vD_21 H locs ls hP hD hS (lv_sub hl [0] rfl) hok
  have J16 : ∀ (H : Heap) (locs : List Loc) (ls : Array Slot), va_P D vwCl (wX1_keep cy aD qD pD_past vD vD_past vD_now) H → va_D A (wX1_keep cy aD qD pD_past vD vD_past vD_now) → va_S A s.heap H locs → lv_has ls 1 [(0, .ref aD)] → fX1_keep_J16 vD vD_past vD_now = some (z_vD, z_vD_past) → W p l e ({ frames := 1, cells := 0, slots := 0, locals := 40 } : Room) s m ([.ref aD] : List Value).toArray below meth c H locs 0 0 Q (F0 m 16 ls []) := by
    intro  H locs ls hP hD hS hl hok
    unfold fX1_keep_J16 at hok
    refine lv_aload_n hx hb dX1_keep_16 rfl (lv_at hl 0 rfl) ?_
    refine lv_iconst (v := 0) hx hb dX1_keep_17 (by decide) ?_
    refine va_put (D := D) (ci := 1) (v := .int 0) (ty := .int) (C := RX1) (T := TX1) (N := 6) hx hb ht0 niX1 tyX1 tyX1_ok nmX1 hown hK hP hD hS 0 rfl rfl 4 (by decide) (ht0 _ wd59) (fun _ h9 => h9) rfl (by decide +kernel) rfl rfl (Nat.le_of_ble_eq_true rfl) dX1_keep_18 (fun H locs hP hD hS => ?_)
    have hP : va_P D vwCl (wX1_keep cy aD qD pD_past (upd vD 4 (0 : Int32)) vD_past vD_now) H := hP
    have hD : va_D A (wX1_keep cy aD qD pD_past (upd vD 4 (0 : Int32)) vD_past vD_now) := hD
    exact J21 (upd vD 4 (0 : Int32)) H locs ls hP hD hS (lv_sub hl [0] rfl) hok
  unfold fX1_keep at hok
  obtain ⟨H, hH⟩ : ∃ H, H = s.heap := ⟨_, rfl⟩
  obtain ⟨locs, hlc⟩ : ∃ x : List Loc, x = [] := ⟨_, rfl⟩
  have hP : va_P D vwCl (wX1_keep cy aD qD pD_past vD vD_past vD_now) H := by rw [hH]; exact hP
  have hS : va_S A s.heap H locs := by rw [hH, hlc]; exact hS
  rw [show W p l e _ s m _ below meth c s.heap [] = W p l e _ s m _ below meth c H locs from by rw [hH, hlc]]
  refine lv_aload_n hx hb dX1_keep_0 rfl (lv_at hl 0 rfl) ?_
  refine va_get (D := D) (ci := 1) (v := .int (vD 4)) (C := RX1) (T := TX1) (N := 6) hx hb ht0 niX1 hown hK hP 0 rfl rfl 4 (by decide) (ht0 _ wd59) (fun _ h9 => h9) rfl dX1_keep_1 ?_
  refine lv_if_lt (tgt := 16) hx hb dX1_keep_4 (by decide) (fun c4 => ?_) (fun c4 => ?_)
  · have hok := k_pos c4 hok
    exact J16  H locs ls hP hD hS (lv_sub hl [0] rfl) hok
  · have hok := k_neg c4 hok
    refine lv_aload_n hx hb dX1_keep_7 rfl (lv_at hl 0 rfl) ?_
    refine va_get (D := D) (ci := 1) (v := .int (vD 4)) (C := RX1) (T := TX1) (N := 6) hx hb ht0 niX1 hown hK hP 0 rfl rfl 4 (by decide) (ht0 _ wd59) (fun _ h9 => h9) rfl dX1_keep_8 ?_
    refine lv_bipush (v := 16) hx hb dX1_keep_11 (by decide) ?_
    refine lv_icmp_lt (tgt := 21) hx hb dX1_keep_13 (by decide) (fun c13 => ?_) (fun c13 => ?_)
    · have hok := k_pos c13 hok
      exact J21 vD H locs ls hP hD hS (lv_sub hl [0] rfl) hok
    · have hok := k_neg c13 hok
      exact J16  H locs ls hP hD hS (lv_sub hl [0] rfl) hok
def wsX1_takeBack : List Cond := .code yX1_takeBack cX1_takeBack 1 (some .boolean) :: W0
abbrev wX1_takeBack (cy : Nat → ClassId) (aD : Nat) (qD : Nat → Nat) (pD_past : Nat → Nat) (vD : Nat → Int32) (vD_past : Nat → Nat → Int32) (vD_now : Nat → Int32) : va_W := [(aD, oX1 vD qD), (qD 1, rR cy 16 (fun j => some (pD_past j))), (pD_past 0, rI cy 9 (vD_past 0)), (pD_past 1, rI cy 9 (vD_past 1)), (pD_past 2, rI cy 9 (vD_past 2)), (pD_past 3, rI cy 9 (vD_past 3)), (pD_past 4, rI cy 9 (vD_past 4)), (pD_past 5, rI cy 9 (vD_past 5)), (pD_past 6, rI cy 9 (vD_past 6)), (pD_past 7, rI cy 9 (vD_past 7)), (pD_past 8, rI cy 9 (vD_past 8)), (pD_past 9, rI cy 9 (vD_past 9)), (pD_past 10, rI cy 9 (vD_past 10)), (pD_past 11, rI cy 9 (vD_past 11)), (pD_past 12, rI cy 9 (vD_past 12)), (pD_past 13, rI cy 9 (vD_past 13)), (pD_past 14, rI cy 9 (vD_past 14)), (pD_past 15, rI cy 9 (vD_past 15)), (qD 0, rI cy 9 vD_now)]
theorem gatX1_takeBack_vD_past {cy : Nat → ClassId} (aD : Nat) (qD : Nat → Nat) (pD_past : Nat → Nat) (vD : Nat → Int32) (vD_past : Nat → Nat → Int32) (vD_now : Nat → Int32) {k : Nat} (h : k < 16) : (wX1_takeBack cy aD qD pD_past vD vD_past vD_now)[2 + k]? = some (pD_past k, rI cy 9 (vD_past k)) := by
  rcases (show k = 0 ∨ k = 1 ∨ k = 2 ∨ k = 3 ∨ k = 4 ∨ k = 5 ∨ k = 6 ∨ k = 7 ∨ k = 8 ∨ k = 9 ∨ k = 10 ∨ k = 11 ∨ k = 12 ∨ k = 13 ∨ k = 14 ∨ k = 15 by omega) with rfl | rfl | rfl | rfl | rfl | rfl | rfl | rfl | rfl | rfl | rfl | rfl | rfl | rfl | rfl | rfl <;> rfl
theorem gsetX1_takeBack_vD_past {cy : Nat → ClassId} (aD : Nat) (qD : Nat → Nat) (pD_past : Nat → Nat) (vD : Nat → Int32) (vD_past : Nat → Nat → Int32) (vD_now : Nat → Int32) {k : Nat} (h : k < 16) {f : Nat → Int32} : (wX1_takeBack cy aD qD pD_past vD vD_past vD_now).set (2 + k) (pD_past k, rI cy 9 f) = wX1_takeBack cy aD qD pD_past vD (va_up vD_past k f) vD_now := by
  rcases (show k = 0 ∨ k = 1 ∨ k = 2 ∨ k = 3 ∨ k = 4 ∨ k = 5 ∨ k = 6 ∨ k = 7 ∨ k = 8 ∨ k = 9 ∨ k = 10 ∨ k = 11 ∨ k = 12 ∨ k = 13 ∨ k = 14 ∨ k = 15 by omega) with rfl | rfl | rfl | rfl | rfl | rfl | rfl | rfl | rfl | rfl | rfl | rfl | rfl | rfl | rfl | rfl <;> rfl
set_option maxHeartbeats 4000000 in
set_option maxRecDepth 100000 in
theorem kX1_takeBack (l : Launch) (D : va_G) (cy : Nat → ClassId) (sz : Nat) (aD : Nat) (qD : Nat → Nat) (pD_past : Nat → Nat) (vD : Nat → Int32) (vD_past : Nat → Nat → Int32) (vD_now : Nat → Int32) (zr : Int32) (z_vD : Nat → Int32) (z_vD_now : Nat → Int32) (hok : fX1_takeBack vD vD_past vD_now = some (zr, z_vD, z_vD_now)) (A : Nat → Prop) (hAe : va_A (wX1_takeBack cy aD qD pD_past vD vD_past vD_now) sz = A) : Met l yX1_takeBack wsX1_takeBack ({ frames := 1, cells := 0, slots := 0, locals := 40 } : Room) (kPre D cy [.ref aD] (wX1_takeBack cy aD qD pD_past vD vD_past vD_now) sz) (kQi D cy zr A (wX1_takeBack cy aD qD pD_past z_vD vD_past z_vD_now)) 0 0 A := by
  refine Met.ofW (cc := cX1_takeBack) (maxL := 1) (ret := (some .boolean)) (by decide) rfl ?_
  intro p e s m args below meth c s₁ B hml hv
  obtain ⟨rfl, hsz, hP, hK, hD0, hN⟩ := hv
  have hx := B.exec
  have hb := B.bytes
  have hr := B.returns
  have ht0 : ∀ w ∈ W0, w.before _ s = true := fun w h => atoms_spec (ws := wsX1_takeBack) B.pre w (List.mem_cons_of_mem _ h)
  have hown : s.vm.findClass RX1 = some m.cls := findClass_of_methodNamed B.named
  have hlocks := B.notSynchronized
  subst hsz
  have hD : va_D A (wX1_takeBack cy aD qD pD_past vD vD_past vD_now) := by rw [← hAe]; exact hD0.self
  have hA : ∀ q : Nat, s.heap.size ≤ q → A q := fun q h => by rw [← hAe]; exact Or.inr h
  have hS : va_S A s.heap s.heap [] := va_S.rf
  have hl := lv_entry ([.ref aD]) (n := 1) (Nat.le_of_ble_eq_true rfl)
  rw [lg_entry_eq]
  generalize (lg_sl ([.ref aD]) ++ List.replicate (1 - (lg_sl ([.ref aD])).length) Slot.unset).toArray = ls at hl ⊢
  have hl : lv_has ls 1 [(0, .ref aD)] := hl
  generalize hQe : MQ below (kQi D cy zr A (wX1_takeBack cy aD qD pD_past z_vD vD_past z_vD_now)) ([.ref aD] : List Value).toArray s 0 0 A = Q
  have J37 : ∀ (t0_37 : Int32), ∀ (H : Heap) (locs : List Loc) (ls : Array Slot), va_P D vwCl (wX1_takeBack cy aD qD pD_past vD vD_past vD_now) H → va_D A (wX1_takeBack cy aD qD pD_past vD vD_past vD_now) → va_S A s.heap H locs → lv_has ls 1 [(0, .ref aD)] → fX1_takeBack_J37 vD vD_past vD_now t0_37 = some (zr, z_vD, z_vD_now) → W p l e ({ frames := 1, cells := 0, slots := 0, locals := 40 } : Room) s m ([.ref aD] : List Value).toArray below meth c H locs 0 0 Q (F0 m 37 ls [.int t0_37, .ref aD]) := by
    intro t0_37 H locs ls hP hD hS hl hok
    unfold fX1_takeBack_J37 at hok
    refine va_put (D := D) (ci := 1) (v := .int t0_37) (ty := .int) (C := RX1) (T := TX1) (N := 6) hx hb ht0 niX1 tyX1 tyX1_ok nmX1 hown hK hP hD hS 0 rfl rfl 4 (by decide) (ht0 _ wd59) (fun _ h9 => h9) rfl (by decide +kernel) rfl rfl (Nat.le_of_ble_eq_true rfl) dX1_takeBack_37 (fun H locs hP hD hS => ?_)
    have hP : va_P D vwCl (wX1_takeBack cy aD qD pD_past (upd vD 4 t0_37) vD_past vD_now) H := hP
    have hD : va_D A (wX1_takeBack cy aD qD pD_past (upd vD 4 t0_37) vD_past vD_now) := hD
    refine lv_aload_n hx hb dX1_takeBack_40 rfl (lv_at hl 0 rfl) ?_
    refine va_get (D := D) (ci := 1) (v := .ref (qD 1)) (C := RX1) (T := TX1) (N := 6) hx hb ht0 niX1 hown hK hP 0 rfl rfl 1 (by decide) (ht0 _ wd60) (fun _ h9 => h9) rfl dX1_takeBack_41 ?_
    refine lv_aload_n hx hb dX1_takeBack_44 rfl (lv_at hl 0 rfl) ?_
    refine va_get (D := D) (ci := 1) (v := .int t0_37) (C := RX1) (T := TX1) (N := 6) hx hb ht0 niX1 hown hK hP 0 rfl rfl 4 (by decide) (ht0 _ wd59) (fun _ h9 => h9) rfl dX1_takeBack_45 ?_
    obtain ⟨g48, hok⟩ := gd_some hok
    refine va_aldA hx hb hK hP 1 4 rfl rfl (okI_in g48) dX1_takeBack_48 ?_
    refine lv_iconst (v := 0) hx hb dX1_takeBack_49 (by decide) ?_
    refine lv_aload_n hx hb dX1_takeBack_50 rfl (lv_at hl 0 rfl) ?_
    refine va_get (D := D) (ci := 1) (v := .ref (qD 0)) (C := RX1) (T := TX1) (N := 6) hx hb ht0 niX1 hown hK hP 0 rfl rfl 0 (by decide) (ht0 _ wd50) (fun _ h9 => h9) rfl dX1_takeBack_51 ?_
    refine lv_iconst (v := 0) hx hb dX1_takeBack_54 (by decide) ?_
    refine lv_bipush (v := 9) hx hb dX1_takeBack_55 (by decide) ?_
    refine va_copyi hx hb (hml.trans hl.1.symm) hown (ht0 _ wd61) (ht0 _ wd62) (ht0 _ wd63) (ht0 _ wd64) hK hP hD hS (2 + t0_37.toNatClampNeg) 18 0 0 (gatX1_takeBack_vD_past aD qD pD_past (upd vD 4 t0_37) vD_past vD_now (okI_lt g48)) rfl rfl rfl rfl (by decide) (by decide) (by decide) (by decide) (by decide) (fun _ _ => rfl) (Nat.le_of_ble_eq_true rfl) (Nat.le_of_ble_eq_true rfl) dX1_takeBack_57 (fun H locs hP hD hS => ?_)
    have hP : va_P D vwCl (wX1_takeBack cy aD qD pD_past (upd vD 4 t0_37) vD_past (va_cpy (vD_past t0_37.toNatClampNeg) vD_now (0 : Int32).toNatClampNeg (0 : Int32).toNatClampNeg (9 : Int32).toNatClampNeg)) H := hP
    have hD : va_D A (wX1_takeBack cy aD qD pD_past (upd vD 4 t0_37) vD_past (va_cpy (vD_past t0_37.toNatClampNeg) vD_now (0 : Int32).toNatClampNeg (0 : Int32).toNatClampNeg (9 : Int32).toNatClampNeg)) := hD
    refine lv_aload_n hx hb dX1_takeBack_60 rfl (lv_at hl 0 rfl) ?_
    refine lv_dup hx hb dX1_takeBack_61 rfl ?_
    refine va_get (D := D) (ci := 1) (v := .int (vD 3)) (C := RX1) (T := TX1) (N := 6) hx hb ht0 niX1 hown hK hP 0 rfl rfl 3 (by decide) (ht0 _ wd48) (fun _ h9 => h9) rfl dX1_takeBack_62 ?_
    refine lv_iconst (v := 1) hx hb dX1_takeBack_65 (by decide) ?_
    refine lv_isub hx hb dX1_takeBack_66 ?_
    refine va_put (D := D) (ci := 1) (v := .int ((vD 3) - (1 : Int32))) (ty := .int) (C := RX1) (T := TX1) (N := 6) hx hb ht0 niX1 tyX1 tyX1_ok nmX1 hown hK hP hD hS 0 rfl rfl 3 (by decide) (ht0 _ wd48) (fun _ h9 => h9) rfl (by decide +kernel) rfl rfl (Nat.le_of_ble_eq_true rfl) dX1_takeBack_67 (fun H locs hP hD hS => ?_)
    have hP : va_P D vwCl (wX1_takeBack cy aD qD pD_past (upd (upd vD 3 ((vD 3) - (1 : Int32))) 4 t0_37) vD_past (va_cpy (vD_past t0_37.toNatClampNeg) vD_now (0 : Int32).toNatClampNeg (0 : Int32).toNatClampNeg (9 : Int32).toNatClampNeg)) H := hP
    have hD : va_D A (wX1_takeBack cy aD qD pD_past (upd (upd vD 3 ((vD 3) - (1 : Int32))) 4 t0_37) vD_past (va_cpy (vD_past t0_37.toNatClampNeg) vD_now (0 : Int32).toNatClampNeg (0 : Int32).toNatClampNeg (9 : Int32).toNatClampNeg)) := hD
    refine lv_iconst (v := 1) hx hb dX1_takeBack_70 (by decide) ?_
    cases hok
    subst hQe; exact W.zret hx hb hr rfl (fun t ht hW => ⟨⟨_, (), rfl, rfl, by rw [ht]; exact hP, va_K.moved hW.alike hK, hD⟩, hS.F ht⟩) hS.2.2 dX1_takeBack_71
  have J35 : ∀ (H : Heap) (locs : List Loc) (ls : Array Slot), va_P D vwCl (wX1_takeBack cy aD qD pD_past vD vD_past vD_now) H → va_D A (wX1_takeBack cy aD qD pD_past vD vD_past vD_now) → va_S A s.heap H locs → lv_has ls 1 [(0, .ref aD)] → fX1_takeBack_J35 vD vD_past vD_now = some (zr, z_vD, z_vD_now) → W p l e ({ frames := 1, cells := 0, slots := 0, locals := 40 } : Room) s m ([.ref aD] : List Value).toArray below meth c H locs 0 0 Q (F0 m 35 ls [.ref aD]) := by
    intro  H locs ls hP hD hS hl hok
    unfold fX1_takeBack_J35 at hok
    refine lv_bipush (v := 15) hx hb dX1_takeBack_35 (by decide) ?_
    exact J37 (15 : Int32) H locs ls hP hD hS (lv_sub hl [0] rfl) hok
  unfold fX1_takeBack at hok
  obtain ⟨H, hH⟩ : ∃ H, H = s.heap := ⟨_, rfl⟩
  obtain ⟨locs, hlc⟩ : ∃ x : List Loc, x = [] := ⟨_, rfl⟩
  have hP : va_P D vwCl (wX1_takeBack cy aD qD pD_past vD vD_past vD_now) H := by rw [hH]; exact hP
  have hS : va_S A s.heap H locs := by rw [hH, hlc]; exact hS
  rw [show W p l e _ s m _ below meth c s.heap [] = W p l e _ s m _ below meth c H locs from by rw [hH, hlc]]
  refine lv_aload_n hx hb dX1_takeBack_0 rfl (lv_at hl 0 rfl) ?_
  refine va_get (D := D) (ci := 1) (v := .int (vD 3)) (C := RX1) (T := TX1) (N := 6) hx hb ht0 niX1 hown hK hP 0 rfl rfl 3 (by decide) (ht0 _ wd48) (fun _ h9 => h9) rfl dX1_takeBack_1 ?_
  refine lv_if_gt (tgt := 9) hx hb dX1_takeBack_4 (by decide) (fun c4 => ?_) (fun c4 => ?_)
  · have hok := k_pos c4 hok
    refine lv_aload_n hx hb dX1_takeBack_9 rfl (lv_at hl 0 rfl) ?_
    refine lv_aload_n hx hb dX1_takeBack_10 rfl (lv_at hl 0 rfl) ?_
    refine va_get (D := D) (ci := 1) (v := .int (vD 4)) (C := RX1) (T := TX1) (N := 6) hx hb ht0 niX1 hown hK hP 0 rfl rfl 4 (by decide) (ht0 _ wd59) (fun _ h9 => h9) rfl dX1_takeBack_11 ?_
    refine lv_if_le (tgt := 35) hx hb dX1_takeBack_14 (by decide) (fun c14 => ?_) (fun c14 => ?_)
    · have hok := k_pos c14 hok
      exact J35  H locs ls hP hD hS (lv_sub hl [0] rfl) hok
    · have hok := k_neg c14 hok
      refine lv_aload_n hx hb dX1_takeBack_17 rfl (lv_at hl 0 rfl) ?_
      refine va_get (D := D) (ci := 1) (v := .int (vD 4)) (C := RX1) (T := TX1) (N := 6) hx hb ht0 niX1 hown hK hP 0 rfl rfl 4 (by decide) (ht0 _ wd59) (fun _ h9 => h9) rfl dX1_takeBack_18 ?_
      refine lv_bipush (v := 16) hx hb dX1_takeBack_21 (by decide) ?_
      refine lv_icmp_ge (tgt := 35) hx hb dX1_takeBack_23 (by decide) (fun c23 => ?_) (fun c23 => ?_)
      · have hok := k_pos c23 hok
        exact J35  H locs ls hP hD hS (lv_sub hl [0] rfl) hok
      · have hok := k_neg c23 hok
        refine lv_aload_n hx hb dX1_takeBack_26 rfl (lv_at hl 0 rfl) ?_
        refine va_get (D := D) (ci := 1) (v := .int (vD 4)) (C := RX1) (T := TX1) (N := 6) hx hb ht0 niX1 hown hK hP 0 rfl rfl 4 (by decide) (ht0 _ wd59) (fun _ h9 => h9) rfl dX1_takeBack_27 ?_
        refine lv_iconst (v := 1) hx hb dX1_takeBack_30 (by decide) ?_
        refine lv_isub hx hb dX1_takeBack_31 ?_
        refine lv_goto (tgt := 37) hx hb dX1_takeBack_32 (by decide) ?_
        exact J37 ((vD 4) - (1 : Int32)) H locs ls hP hD hS (lv_sub hl [0] rfl) hok
  · have hok := k_neg c4 hok
    refine lv_iconst (v := 0) hx hb dX1_takeBack_7 (by decide) ?_
    cases hok
    subst hQe; exact W.zret hx hb hr rfl (fun t ht hW => ⟨⟨_, (), rfl, rfl, by rw [ht]; exact hP, va_K.moved hW.alike hK, hD⟩, hS.F ht⟩) hS.2.2 dX1_takeBack_8
def wsX1_takeImage : List Cond := .code yX1_takeImage cX1_takeImage 1 (some .int) :: W0
abbrev wX1_takeImage (cy : Nat → ClassId) (aD : Nat) (qD : Nat → Nat) (pD_images : Nat → Nat) (vD : Nat → Int32) (vD_images : Nat → Nat → Int32) (vD_now : Nat → Int32) : va_W := [(aD, oX1 vD qD), (qD 2, rR cy 3 (fun j => some (pD_images j))), (pD_images 0, rI cy 9 (vD_images 0)), (pD_images 1, rI cy 9 (vD_images 1)), (pD_images 2, rI cy 9 (vD_images 2)), (qD 0, rI cy 9 vD_now)]
theorem gatX1_takeImage_vD_images {cy : Nat → ClassId} (aD : Nat) (qD : Nat → Nat) (pD_images : Nat → Nat) (vD : Nat → Int32) (vD_images : Nat → Nat → Int32) (vD_now : Nat → Int32) {k : Nat} (h : k < 3) : (wX1_takeImage cy aD qD pD_images vD vD_images vD_now)[2 + k]? = some (pD_images k, rI cy 9 (vD_images k)) := by
  rcases (show k = 0 ∨ k = 1 ∨ k = 2 by omega) with rfl | rfl | rfl <;> rfl
theorem gsetX1_takeImage_vD_images {cy : Nat → ClassId} (aD : Nat) (qD : Nat → Nat) (pD_images : Nat → Nat) (vD : Nat → Int32) (vD_images : Nat → Nat → Int32) (vD_now : Nat → Int32) {k : Nat} (h : k < 3) {f : Nat → Int32} : (wX1_takeImage cy aD qD pD_images vD vD_images vD_now).set (2 + k) (pD_images k, rI cy 9 f) = wX1_takeImage cy aD qD pD_images vD (va_up vD_images k f) vD_now := by
  rcases (show k = 0 ∨ k = 1 ∨ k = 2 by omega) with rfl | rfl | rfl <;> rfl
set_option maxHeartbeats 4000000 in
set_option maxRecDepth 100000 in
theorem kX1_takeImage (l : Launch) (D : va_G) (cy : Nat → ClassId) (sz : Nat) (aD : Nat) (qD : Nat → Nat) (pD_images : Nat → Nat) (vD : Nat → Int32) (vD_images : Nat → Nat → Int32) (vD_now : Nat → Int32) (zr : Int32) (z_vD : Nat → Int32) (z_vD_images : Nat → Nat → Int32) (hok : fX1_takeImage vD vD_images vD_now = some (zr, z_vD, z_vD_images)) (A : Nat → Prop) (hAe : va_A (wX1_takeImage cy aD qD pD_images vD vD_images vD_now) sz = A) : Met l yX1_takeImage wsX1_takeImage ({ frames := 1, cells := 0, slots := 0, locals := 40 } : Room) (kPre D cy [.ref aD] (wX1_takeImage cy aD qD pD_images vD vD_images vD_now) sz) (kQi D cy zr A (wX1_takeImage cy aD qD pD_images z_vD z_vD_images vD_now)) 0 0 A := by
  refine Met.ofW (cc := cX1_takeImage) (maxL := 1) (ret := (some .int)) (by decide) rfl ?_
  intro p e s m args below meth c s₁ B hml hv
  obtain ⟨rfl, hsz, hP, hK, hD0, hN⟩ := hv
  have hx := B.exec
  have hb := B.bytes
  have hr := B.returns
  have ht0 : ∀ w ∈ W0, w.before _ s = true := fun w h => atoms_spec (ws := wsX1_takeImage) B.pre w (List.mem_cons_of_mem _ h)
  have hown : s.vm.findClass RX1 = some m.cls := findClass_of_methodNamed B.named
  have hlocks := B.notSynchronized
  subst hsz
  have hD : va_D A (wX1_takeImage cy aD qD pD_images vD vD_images vD_now) := by rw [← hAe]; exact hD0.self
  have hA : ∀ q : Nat, s.heap.size ≤ q → A q := fun q h => by rw [← hAe]; exact Or.inr h
  have hS : va_S A s.heap s.heap [] := va_S.rf
  have hl := lv_entry ([.ref aD]) (n := 1) (Nat.le_of_ble_eq_true rfl)
  rw [lg_entry_eq]
  generalize (lg_sl ([.ref aD]) ++ List.replicate (1 - (lg_sl ([.ref aD])).length) Slot.unset).toArray = ls at hl ⊢
  have hl : lv_has ls 1 [(0, .ref aD)] := hl
  generalize hQe : MQ below (kQi D cy zr A (wX1_takeImage cy aD qD pD_images z_vD z_vD_images vD_now)) ([.ref aD] : List Value).toArray s 0 0 A = Q
  have J15 : ∀ (H : Heap) (locs : List Loc) (ls : Array Slot), va_P D vwCl (wX1_takeImage cy aD qD pD_images vD vD_images vD_now) H → va_D A (wX1_takeImage cy aD qD pD_images vD vD_images vD_now) → va_S A s.heap H locs → lv_has ls 1 [] → fX1_takeImage_J15 vD vD_images = some (zr, z_vD, z_vD_images) → W p l e ({ frames := 1, cells := 0, slots := 0, locals := 40 } : Room) s m ([.ref aD] : List Value).toArray below meth c H locs 0 0 Q (F0 m 15 ls []) := by
    intro  H locs ls hP hD hS hl hok
    unfold fX1_takeImage_J15 at hok
    refine lv_iconst (v := -1) hx hb dX1_takeImage_15 (by decide) ?_
    cases hok
    subst hQe; exact W.iret hx hb hr (fun t ht hW => ⟨⟨_, (), rfl, rfl, by rw [ht]; exact hP, va_K.moved hW.alike hK, hD⟩, hS.F ht⟩) hS.2.2 dX1_takeImage_16
  unfold fX1_takeImage at hok
  obtain ⟨H, hH⟩ : ∃ H, H = s.heap := ⟨_, rfl⟩
  obtain ⟨locs, hlc⟩ : ∃ x : List Loc, x = [] := ⟨_, rfl⟩
  have hP : va_P D vwCl (wX1_takeImage cy aD qD pD_images vD vD_images vD_now) H := by rw [hH]; exact hP
  have hS : va_S A s.heap H locs := by rw [hH, hlc]; exact hS
  rw [show W p l e _ s m _ below meth c s.heap [] = W p l e _ s m _ below meth c H locs from by rw [hH, hlc]]
  refine lv_aload_n hx hb dX1_takeImage_0 rfl (lv_at hl 0 rfl) ?_
  refine va_get (D := D) (ci := 1) (v := .int (vD 5)) (C := RX1) (T := TX1) (N := 6) hx hb ht0 niX1 hown hK hP 0 rfl rfl 5 (by decide) (ht0 _ wd49) (fun _ h9 => h9) rfl dX1_takeImage_1 ?_
  refine lv_if_lt (tgt := 15) hx hb dX1_takeImage_4 (by decide) (fun c4 => ?_) (fun c4 => ?_)
  · have hok := k_pos c4 hok
    exact J15  H locs ls hP hD hS (lv_sub hl [] rfl) hok
  · have hok := k_neg c4 hok
    refine lv_aload_n hx hb dX1_takeImage_7 rfl (lv_at hl 0 rfl) ?_
    refine va_get (D := D) (ci := 1) (v := .int (vD 5)) (C := RX1) (T := TX1) (N := 6) hx hb ht0 niX1 hown hK hP 0 rfl rfl 5 (by decide) (ht0 _ wd49) (fun _ h9 => h9) rfl dX1_takeImage_8 ?_
    refine lv_iconst (v := 3) hx hb dX1_takeImage_11 (by decide) ?_
    refine lv_icmp_lt (tgt := 17) hx hb dX1_takeImage_12 (by decide) (fun c12 => ?_) (fun c12 => ?_)
    · have hok := k_pos c12 hok
      refine lv_aload_n hx hb dX1_takeImage_17 rfl (lv_at hl 0 rfl) ?_
      refine va_get (D := D) (ci := 1) (v := .ref (qD 0)) (C := RX1) (T := TX1) (N := 6) hx hb ht0 niX1 hown hK hP 0 rfl rfl 0 (by decide) (ht0 _ wd50) (fun _ h9 => h9) rfl dX1_takeImage_18 ?_
      refine lv_iconst (v := 0) hx hb dX1_takeImage_21 (by decide) ?_
      refine lv_aload_n hx hb dX1_takeImage_22 rfl (lv_at hl 0 rfl) ?_
      refine va_get (D := D) (ci := 1) (v := .ref (qD 2)) (C := RX1) (T := TX1) (N := 6) hx hb ht0 niX1 hown hK hP 0 rfl rfl 2 (by decide) (ht0 _ wd65) (fun _ h9 => h9) rfl dX1_takeImage_23 ?_
      refine lv_aload_n hx hb dX1_takeImage_26 rfl (lv_at hl 0 rfl) ?_
      refine va_get (D := D) (ci := 1) (v := .int (vD 5)) (C := RX1) (T := TX1) (N := 6) hx hb ht0 niX1 hown hK hP 0 rfl rfl 5 (by decide) (ht0 _ wd49) (fun _ h9 => h9) rfl dX1_takeImage_27 ?_
      obtain ⟨g30, hok⟩ := gd_some hok
      refine va_aldA hx hb hK hP 1 4 rfl rfl (okI_in g30) dX1_takeImage_30 ?_
      refine lv_iconst (v := 0) hx hb dX1_takeImage_31 (by decide) ?_
      refine lv_bipush (v := 9) hx hb dX1_takeImage_32 (by decide) ?_
      refine va_copyi hx hb (hml.trans hl.1.symm) hown (ht0 _ wd61) (ht0 _ wd62) (ht0 _ wd63) (ht0 _ wd64) hK hP hD hS 5 (2 + (vD 5).toNatClampNeg) 0 0 rfl (gatX1_takeImage_vD_images aD qD pD_images vD vD_images vD_now (okI_lt g30)) rfl rfl rfl (by decide) (by decide) (by decide) (by decide) (by decide) (fun _ _ => rfl) (Nat.le_of_ble_eq_true rfl) (Nat.le_of_ble_eq_true rfl) dX1_takeImage_34 (fun H locs hP hD hS => ?_)
      rw [gsetX1_takeImage_vD_images aD qD pD_images vD vD_images vD_now (okI_lt g30)] at hP hD
      have hP : va_P D vwCl (wX1_takeImage cy aD qD pD_images vD (va_up vD_images ((vD 5).toNatClampNeg) (va_cpy vD_now (vD_images ((vD 5).toNatClampNeg)) (0 : Int32).toNatClampNeg (0 : Int32).toNatClampNeg (9 : Int32).toNatClampNeg)) vD_now) H := hP
      have hD : va_D A (wX1_takeImage cy aD qD pD_images vD (va_up vD_images ((vD 5).toNatClampNeg) (va_cpy vD_now (vD_images ((vD 5).toNatClampNeg)) (0 : Int32).toNatClampNeg (0 : Int32).toNatClampNeg (9 : Int32).toNatClampNeg)) vD_now) := hD
      refine lv_aload_n hx hb dX1_takeImage_37 rfl (lv_at hl 0 rfl) ?_
      refine lv_dup hx hb dX1_takeImage_38 rfl ?_
      refine va_get (D := D) (ci := 1) (v := .int (vD 5)) (C := RX1) (T := TX1) (N := 6) hx hb ht0 niX1 hown hK hP 0 rfl rfl 5 (by decide) (ht0 _ wd49) (fun _ h9 => h9) rfl dX1_takeImage_39 ?_
      refine lv_iconst (v := 1) hx hb dX1_takeImage_42 (by decide) ?_
      refine lv_iadd hx hb dX1_takeImage_43 ?_
      refine va_put (D := D) (ci := 1) (v := .int ((vD 5) + (1 : Int32))) (ty := .int) (C := RX1) (T := TX1) (N := 6) hx hb ht0 niX1 tyX1 tyX1_ok nmX1 hown hK hP hD hS 0 rfl rfl 5 (by decide) (ht0 _ wd49) (fun _ h9 => h9) rfl (by decide +kernel) rfl rfl (Nat.le_of_ble_eq_true rfl) dX1_takeImage_44 (fun H locs hP hD hS => ?_)
      have hP : va_P D vwCl (wX1_takeImage cy aD qD pD_images (upd vD 5 ((vD 5) + (1 : Int32))) (va_up vD_images ((vD 5).toNatClampNeg) (va_cpy vD_now (vD_images ((vD 5).toNatClampNeg)) (0 : Int32).toNatClampNeg (0 : Int32).toNatClampNeg (9 : Int32).toNatClampNeg)) vD_now) H := hP
      have hD : va_D A (wX1_takeImage cy aD qD pD_images (upd vD 5 ((vD 5) + (1 : Int32))) (va_up vD_images ((vD 5).toNatClampNeg) (va_cpy vD_now (vD_images ((vD 5).toNatClampNeg)) (0 : Int32).toNatClampNeg (0 : Int32).toNatClampNeg (9 : Int32).toNatClampNeg)) vD_now) := hD
      refine lv_aload_n hx hb dX1_takeImage_47 rfl (lv_at hl 0 rfl) ?_
      refine va_get (D := D) (ci := 1) (v := .int ((vD 5) + (1 : Int32))) (C := RX1) (T := TX1) (N := 6) hx hb ht0 niX1 hown hK hP 0 rfl rfl 5 (by decide) (ht0 _ wd49) (fun _ h9 => h9) rfl dX1_takeImage_48 ?_
      refine lv_iconst (v := 1) hx hb dX1_takeImage_51 (by decide) ?_
      refine lv_isub hx hb dX1_takeImage_52 ?_
      cases hok
      subst hQe; exact W.iret hx hb hr (fun t ht hW => ⟨⟨_, (), rfl, rfl, by rw [ht]; exact hP, va_K.moved hW.alike hK, hD⟩, hS.F ht⟩) hS.2.2 dX1_takeImage_53
    · have hok := k_neg c12 hok
      exact J15  H locs ls hP hD hS (lv_sub hl [] rfl) hok
def wsX1_returnTo : List Cond := .code yX1_returnTo cX1_returnTo 2 (some .boolean) :: W0
abbrev wX1_returnTo (cy : Nat → ClassId) (aD : Nat) (qD : Nat → Nat) (pD_images : Nat → Nat) (vD : Nat → Int32) (vD_images : Nat → Nat → Int32) (vD_now : Nat → Int32) : va_W := [(aD, oX1 vD qD), (qD 2, rR cy 3 (fun j => some (pD_images j))), (pD_images 0, rI cy 9 (vD_images 0)), (pD_images 1, rI cy 9 (vD_images 1)), (pD_images 2, rI cy 9 (vD_images 2)), (qD 0, rI cy 9 vD_now)]
theorem gatX1_returnTo_vD_images {cy : Nat → ClassId} (aD : Nat) (qD : Nat → Nat) (pD_images : Nat → Nat) (vD : Nat → Int32) (vD_images : Nat → Nat → Int32) (vD_now : Nat → Int32) {k : Nat} (h : k < 3) : (wX1_returnTo cy aD qD pD_images vD vD_images vD_now)[2 + k]? = some (pD_images k, rI cy 9 (vD_images k)) := by
  rcases (show k = 0 ∨ k = 1 ∨ k = 2 by omega) with rfl | rfl | rfl <;> rfl
theorem gsetX1_returnTo_vD_images {cy : Nat → ClassId} (aD : Nat) (qD : Nat → Nat) (pD_images : Nat → Nat) (vD : Nat → Int32) (vD_images : Nat → Nat → Int32) (vD_now : Nat → Int32) {k : Nat} (h : k < 3) {f : Nat → Int32} : (wX1_returnTo cy aD qD pD_images vD vD_images vD_now).set (2 + k) (pD_images k, rI cy 9 f) = wX1_returnTo cy aD qD pD_images vD (va_up vD_images k f) vD_now := by
  rcases (show k = 0 ∨ k = 1 ∨ k = 2 by omega) with rfl | rfl | rfl <;> rfl
set_option maxHeartbeats 4000000 in
set_option maxRecDepth 100000 in
theorem kX1_returnTo (l : Launch) (D : va_G) (cy : Nat → ClassId) (sz : Nat) (aD : Nat) (qD : Nat → Nat) (pD_images : Nat → Nat) (vD : Nat → Int32) (vD_images : Nat → Nat → Int32) (vD_now : Nat → Int32) (x1 : Int32) (zr : Int32) (z_vD : Nat → Int32) (z_vD_now : Nat → Int32) (hok : fX1_returnTo vD vD_images vD_now x1 = some (zr, z_vD, z_vD_now)) (A : Nat → Prop) (hAe : va_A (wX1_returnTo cy aD qD pD_images vD vD_images vD_now) sz = A) : Met l yX1_returnTo wsX1_returnTo ({ frames := 1, cells := 0, slots := 0, locals := 40 } : Room) (kPre D cy [.ref aD, .int x1] (wX1_returnTo cy aD qD pD_images vD vD_images vD_now) sz) (kQi D cy zr A (wX1_returnTo cy aD qD pD_images z_vD vD_images z_vD_now)) 0 0 A := by
  refine Met.ofW (cc := cX1_returnTo) (maxL := 2) (ret := (some .boolean)) (by decide) rfl ?_
  intro p e s m args below meth c s₁ B hml hv
  obtain ⟨rfl, hsz, hP, hK, hD0, hN⟩ := hv
  have hx := B.exec
  have hb := B.bytes
  have hr := B.returns
  have ht0 : ∀ w ∈ W0, w.before _ s = true := fun w h => atoms_spec (ws := wsX1_returnTo) B.pre w (List.mem_cons_of_mem _ h)
  have hown : s.vm.findClass RX1 = some m.cls := findClass_of_methodNamed B.named
  have hlocks := B.notSynchronized
  subst hsz
  have hD : va_D A (wX1_returnTo cy aD qD pD_images vD vD_images vD_now) := by rw [← hAe]; exact hD0.self
  have hA : ∀ q : Nat, s.heap.size ≤ q → A q := fun q h => by rw [← hAe]; exact Or.inr h
  have hS : va_S A s.heap s.heap [] := va_S.rf
  have hl := lv_entry ([.ref aD, .int x1]) (n := 2) (Nat.le_of_ble_eq_true rfl)
  rw [lg_entry_eq]
  generalize (lg_sl ([.ref aD, .int x1]) ++ List.replicate (2 - (lg_sl ([.ref aD, .int x1])).length) Slot.unset).toArray = ls at hl ⊢
  have hl : lv_has ls 2 [(0, .ref aD), (1, .int x1)] := hl
  generalize hQe : MQ below (kQi D cy zr A (wX1_returnTo cy aD qD pD_images z_vD vD_images z_vD_now)) ([.ref aD, .int x1] : List Value).toArray s 0 0 A = Q
  have J17 : ∀ (H : Heap) (locs : List Loc) (ls : Array Slot), va_P D vwCl (wX1_returnTo cy aD qD pD_images vD vD_images vD_now) H → va_D A (wX1_returnTo cy aD qD pD_images vD vD_images vD_now) → va_S A s.heap H locs → lv_has ls 2 [] → fX1_returnTo_J17 vD vD_now = some (zr, z_vD, z_vD_now) → W p l e ({ frames := 1, cells := 0, slots := 0, locals := 40 } : Room) s m ([.ref aD, .int x1] : List Value).toArray below meth c H locs 0 0 Q (F0 m 17 ls []) := by
    intro  H locs ls hP hD hS hl hok
    unfold fX1_returnTo_J17 at hok
    refine lv_iconst (v := 0) hx hb dX1_returnTo_17 (by decide) ?_
    cases hok
    subst hQe; exact W.zret hx hb hr rfl (fun t ht hW => ⟨⟨_, (), rfl, rfl, by rw [ht]; exact hP, va_K.moved hW.alike hK, hD⟩, hS.F ht⟩) hS.2.2 dX1_returnTo_18
  unfold fX1_returnTo at hok
  obtain ⟨H, hH⟩ : ∃ H, H = s.heap := ⟨_, rfl⟩
  obtain ⟨locs, hlc⟩ : ∃ x : List Loc, x = [] := ⟨_, rfl⟩
  have hP : va_P D vwCl (wX1_returnTo cy aD qD pD_images vD vD_images vD_now) H := by rw [hH]; exact hP
  have hS : va_S A s.heap H locs := by rw [hH, hlc]; exact hS
  rw [show W p l e _ s m _ below meth c s.heap [] = W p l e _ s m _ below meth c H locs from by rw [hH, hlc]]
  refine lv_iload_n hx hb dX1_returnTo_0 rfl (lv_at hl 1 rfl) ?_
  refine lv_if_lt (tgt := 17) hx hb dX1_returnTo_1 (by decide) (fun c1 => ?_) (fun c1 => ?_)
  · have hok := k_pos c1 hok
    exact J17  H locs ls hP hD hS (lv_sub hl [] rfl) hok
  · have hok := k_neg c1 hok
    refine lv_iload_n hx hb dX1_returnTo_4 rfl (lv_at hl 1 rfl) ?_
    refine lv_aload_n hx hb dX1_returnTo_5 rfl (lv_at hl 0 rfl) ?_
    refine va_get (D := D) (ci := 1) (v := .int (vD 5)) (C := RX1) (T := TX1) (N := 6) hx hb ht0 niX1 hown hK hP 0 rfl rfl 5 (by decide) (ht0 _ wd49) (fun _ h9 => h9) rfl dX1_returnTo_6 ?_
    refine lv_icmp_ge (tgt := 17) hx hb dX1_returnTo_9 (by decide) (fun c9 => ?_) (fun c9 => ?_)
    · have hok := k_pos c9 hok
      exact J17  H locs ls hP hD hS (lv_sub hl [] rfl) hok
    · have hok := k_neg c9 hok
      refine lv_iload_n hx hb dX1_returnTo_12 rfl (lv_at hl 1 rfl) ?_
      refine lv_iconst (v := 3) hx hb dX1_returnTo_13 (by decide) ?_
      refine lv_icmp_lt (tgt := 19) hx hb dX1_returnTo_14 (by decide) (fun c14 => ?_) (fun c14 => ?_)
      · have hok := k_pos c14 hok
        refine lv_aload_n hx hb dX1_returnTo_19 rfl (lv_at hl 0 rfl) ?_
        refine va_get (D := D) (ci := 1) (v := .ref (qD 2)) (C := RX1) (T := TX1) (N := 6) hx hb ht0 niX1 hown hK hP 0 rfl rfl 2 (by decide) (ht0 _ wd65) (fun _ h9 => h9) rfl dX1_returnTo_20 ?_
        refine lv_iload_n hx hb dX1_returnTo_23 rfl (lv_at hl 1 rfl) ?_
        obtain ⟨g24, hok⟩ := gd_some hok
        refine va_aldA hx hb hK hP 1 4 rfl rfl (okI_in g24) dX1_returnTo_24 ?_
        refine lv_iconst (v := 0) hx hb dX1_returnTo_25 (by decide) ?_
        refine lv_aload_n hx hb dX1_returnTo_26 rfl (lv_at hl 0 rfl) ?_
        refine va_get (D := D) (ci := 1) (v := .ref (qD 0)) (C := RX1) (T := TX1) (N := 6) hx hb ht0 niX1 hown hK hP 0 rfl rfl 0 (by decide) (ht0 _ wd50) (fun _ h9 => h9) rfl dX1_returnTo_27 ?_
        refine lv_iconst (v := 0) hx hb dX1_returnTo_30 (by decide) ?_
        refine lv_bipush (v := 9) hx hb dX1_returnTo_31 (by decide) ?_
        refine va_copyi hx hb (hml.trans hl.1.symm) hown (ht0 _ wd61) (ht0 _ wd62) (ht0 _ wd63) (ht0 _ wd64) hK hP hD hS (2 + x1.toNatClampNeg) 5 0 0 (gatX1_returnTo_vD_images aD qD pD_images vD vD_images vD_now (okI_lt g24)) rfl rfl rfl rfl (by decide) (by decide) (by decide) (by decide) (by decide) (fun _ _ => rfl) (Nat.le_of_ble_eq_true rfl) (Nat.le_of_ble_eq_true rfl) dX1_returnTo_33 (fun H locs hP hD hS => ?_)
        have hP : va_P D vwCl (wX1_returnTo cy aD qD pD_images vD vD_images (va_cpy (vD_images x1.toNatClampNeg) vD_now (0 : Int32).toNatClampNeg (0 : Int32).toNatClampNeg (9 : Int32).toNatClampNeg)) H := hP
        have hD : va_D A (wX1_returnTo cy aD qD pD_images vD vD_images (va_cpy (vD_images x1.toNatClampNeg) vD_now (0 : Int32).toNatClampNeg (0 : Int32).toNatClampNeg (9 : Int32).toNatClampNeg)) := hD
        refine lv_aload_n hx hb dX1_returnTo_36 rfl (lv_at hl 0 rfl) ?_
        refine lv_iconst (v := 0) hx hb dX1_returnTo_37 (by decide) ?_
        refine va_put (D := D) (ci := 1) (v := .int 0) (ty := .int) (C := RX1) (T := TX1) (N := 6) hx hb ht0 niX1 tyX1 tyX1_ok nmX1 hown hK hP hD hS 0 rfl rfl 3 (by decide) (ht0 _ wd48) (fun _ h9 => h9) rfl (by decide +kernel) rfl rfl (Nat.le_of_ble_eq_true rfl) dX1_returnTo_38 (fun H locs hP hD hS => ?_)
        have hP : va_P D vwCl (wX1_returnTo cy aD qD pD_images (upd vD 3 (0 : Int32)) vD_images (va_cpy (vD_images x1.toNatClampNeg) vD_now (0 : Int32).toNatClampNeg (0 : Int32).toNatClampNeg (9 : Int32).toNatClampNeg)) H := hP
        have hD : va_D A (wX1_returnTo cy aD qD pD_images (upd vD 3 (0 : Int32)) vD_images (va_cpy (vD_images x1.toNatClampNeg) vD_now (0 : Int32).toNatClampNeg (0 : Int32).toNatClampNeg (9 : Int32).toNatClampNeg)) := hD
        refine lv_iconst (v := 1) hx hb dX1_returnTo_41 (by decide) ?_
        cases hok
        subst hQe; exact W.zret hx hb hr rfl (fun t ht hW => ⟨⟨_, (), rfl, rfl, by rw [ht]; exact hP, va_K.moved hW.alike hK, hD⟩, hS.F ht⟩) hS.2.2 dX1_returnTo_42
      · have hok := k_neg c14 hok
        exact J17  H locs ls hP hD hS (lv_sub hl [] rfl) hok
def wsX2_gain : List Cond := .code yX2_gain cX2_gain 4 (some .int) :: W0
abbrev wX2_gain (cy : Nat → ClassId)  : va_W := []
set_option maxHeartbeats 4000000 in
set_option maxRecDepth 100000 in
theorem kX2_gain (l : Launch) (D : va_G) (cy : Nat → ClassId) (sz : Nat) (x0 : Int32) (x1 : Int32) (x2 : Int32) (zr : Int32) (hok : fX2_gain x0 x1 x2 = some zr) (A : Nat → Prop) (hAe : va_A (wX2_gain cy ) sz = A) : Met l yX2_gain wsX2_gain ({ frames := 0, cells := 0, slots := 0, locals := 0 } : Room) (kPre D cy [.int x0, .int x1, .int x2] (wX2_gain cy ) sz) (kQi D cy zr A (wX2_gain cy )) 0 0 A := by
  refine Met.ofW (cc := cX2_gain) (maxL := 4) (ret := (some .int)) (by decide) rfl ?_
  intro p e s m args below meth c s₁ B hml hv
  obtain ⟨rfl, hsz, hP, hK, hD0, hN⟩ := hv
  have hx := B.exec
  have hb := B.bytes
  have hr := B.returns
  have ht0 : ∀ w ∈ W0, w.before _ s = true := fun w h => atoms_spec (ws := wsX2_gain) B.pre w (List.mem_cons_of_mem _ h)
  have hown : s.vm.findClass RX2 = some m.cls := findClass_of_methodNamed B.named
  have hlocks := B.notSynchronized
  subst hsz
  have hD : va_D A (wX2_gain cy ) := by rw [← hAe]; exact hD0.self
  have hA : ∀ q : Nat, s.heap.size ≤ q → A q := fun q h => by rw [← hAe]; exact Or.inr h
  have hS : va_S A s.heap s.heap [] := va_S.rf
  have hl := lv_entry ([.int x0, .int x1, .int x2]) (n := 4) (Nat.le_of_ble_eq_true rfl)
  rw [lg_entry_eq]
  generalize (lg_sl ([.int x0, .int x1, .int x2]) ++ List.replicate (4 - (lg_sl ([.int x0, .int x1, .int x2])).length) Slot.unset).toArray = ls at hl ⊢
  have hl : lv_has ls 4 [(0, .int x0), (1, .int x1), (2, .int x2)] := hl
  generalize hQe : MQ below (kQi D cy zr A (wX2_gain cy )) ([.int x0, .int x1, .int x2] : List Value).toArray s 0 0 A = Q
  have J21 : ∀ (y3_21 : Int32), ∀ (H : Heap) (locs : List Loc) (ls : Array Slot), va_P D vwCl (wX2_gain cy ) H → va_D A (wX2_gain cy ) → va_S A s.heap H locs → lv_has ls 4 [(1, .int x1), (3, .int y3_21)] → fX2_gain_J21 x1 y3_21 = some zr → W p l e ({ frames := 0, cells := 0, slots := 0, locals := 0 } : Room) s m ([.int x0, .int x1, .int x2] : List Value).toArray below meth c H locs 0 0 Q (F0 m 21 ls []) := by
    intro y3_21 H locs ls hP hD hS hl hok
    unfold fX2_gain_J21 at hok
    refine lv_iload_n hx hb dX2_gain_21 rfl (lv_at hl 1 rfl) ?_
    refine lv_iload_n hx hb dX2_gain_22 rfl (lv_at hl 0 rfl) ?_
    refine lv_iload_n hx hb dX2_gain_23 rfl (lv_at hl 0 rfl) ?_
    refine lv_imul hx hb dX2_gain_24 ?_
    refine lv_isub hx hb dX2_gain_25 ?_
    cases hok
    subst hQe; exact W.iret hx hb hr (fun t ht hW => ⟨⟨_, (), rfl, rfl, by rw [ht]; exact hP, va_K.moved hW.alike hK, hD⟩, hS.F ht⟩) hS.2.2 dX2_gain_26
  unfold fX2_gain at hok
  obtain ⟨H, hH⟩ : ∃ H, H = s.heap := ⟨_, rfl⟩
  obtain ⟨locs, hlc⟩ : ∃ x : List Loc, x = [] := ⟨_, rfl⟩
  have hP : va_P D vwCl (wX2_gain cy ) H := by rw [hH]; exact hP
  have hS : va_S A s.heap H locs := by rw [hH, hlc]; exact hS
  rw [show W p l e _ s m _ below meth c s.heap [] = W p l e _ s m _ below meth c H locs from by rw [hH, hlc]]
  refine lv_iconst (v := 0) hx hb dX2_gain_0 (by decide) ?_
  refine lv_istore_n (lv' := [(3, .int 0), (0, .int x0), (1, .int x1), (2, .int x2)]) hx hb dX2_gain_1 rfl hl (by decide) rfl (fun ls hl => ?_)
  refine lv_iload_n hx hb dX2_gain_2 rfl (lv_at hl 2 rfl) ?_
  refine lv_iload_n hx hb dX2_gain_3 rfl (lv_at hl 3 rfl) ?_
  refine lv_icmp_le (tgt := 12) hx hb dX2_gain_4 (by decide) (fun c4 => ?_) (fun c4 => ?_)
  · have hok := k_pos c4 hok
    refine lv_iload_n hx hb dX2_gain_12 rfl (lv_at hl 2 rfl) ?_
    refine lv_iload_n hx hb dX2_gain_13 rfl (lv_at hl 3 rfl) ?_
    refine lv_icmp_ne (tgt := 21) hx hb dX2_gain_14 (by decide) (fun c14 => ?_) (fun c14 => ?_)
    · have hok := k_neg c14 hok
      exact J21 (0 : Int32) H locs ls hP hD hS (lv_sub hl [2, 0] rfl) hok
    · have hok := k_pos c14 hok
      refine lv_iload_n hx hb dX2_gain_17 rfl (lv_at hl 1 rfl) ?_
      refine lv_iconst (v := 2) hx hb dX2_gain_18 (by decide) ?_
      refine lv_idiv hx hb dX2_gain_19 (by decide) ?_
      refine lv_istore_n (lv' := [(3, .int (x0 / (2 : Int32))), (0, .int x0), (1, .int x1), (2, .int x2)]) hx hb dX2_gain_20 rfl hl (by decide) rfl (fun ls hl => ?_)
      exact J21 (x0 / (2 : Int32)) H locs ls hP hD hS (lv_sub hl [2, 0] rfl) hok
  · have hok := k_neg c4 hok
    refine lv_iload_n hx hb dX2_gain_7 rfl (lv_at hl 1 rfl) ?_
    refine lv_istore_n (lv' := [(3, .int x0), (0, .int x0), (1, .int x1), (2, .int x2)]) hx hb dX2_gain_8 rfl hl (by decide) rfl (fun ls hl => ?_)
    refine lv_goto (tgt := 21) hx hb dX2_gain_9 (by decide) ?_
    exact J21 x0 H locs ls hP hD hS (lv_sub hl [2, 0] rfl) hok
def wsX2_areAtRest : List Cond := .code yX2_areAtRest cX2_areAtRest 6 (some .boolean) :: W0
abbrev wX2_areAtRest (cy : Nat → ClassId)  : va_W := []
set_option maxHeartbeats 4000000 in
set_option maxRecDepth 100000 in
theorem kX2_areAtRest (l : Launch) (D : va_G) (cy : Nat → ClassId) (sz : Nat) (x0 : Int32) (x1 : Int32) (x2 : Int32) (zr : Int32) (hok : fX2_areAtRest x0 x1 x2 = some zr) (A : Nat → Prop) (hAe : va_A (wX2_areAtRest cy ) sz = A) : Met l yX2_areAtRest wsX2_areAtRest ({ frames := 1, cells := 0, slots := 0, locals := 23 } : Room) (kPre D cy [.int x0, .int x1, .int x2] (wX2_areAtRest cy ) sz) (kQi D cy zr A (wX2_areAtRest cy )) 0 0 A := by
  refine Met.ofW (cc := cX2_areAtRest) (maxL := 6) (ret := (some .boolean)) (by decide) rfl ?_
  intro p e s m args below meth c s₁ B hml hv
  obtain ⟨rfl, hsz, hP, hK, hD0, hN⟩ := hv
  have hx := B.exec
  have hb := B.bytes
  have hr := B.returns
  have ht0 : ∀ w ∈ W0, w.before _ s = true := fun w h => atoms_spec (ws := wsX2_areAtRest) B.pre w (List.mem_cons_of_mem _ h)
  have hown : s.vm.findClass RX2 = some m.cls := findClass_of_methodNamed B.named
  have hlocks := B.notSynchronized
  subst hsz
  have hD : va_D A (wX2_areAtRest cy ) := by rw [← hAe]; exact hD0.self
  have hA : ∀ q : Nat, s.heap.size ≤ q → A q := fun q h => by rw [← hAe]; exact Or.inr h
  have hS : va_S A s.heap s.heap [] := va_S.rf
  have hl := lv_entry ([.int x0, .int x1, .int x2]) (n := 6) (Nat.le_of_ble_eq_true rfl)
  rw [lg_entry_eq]
  generalize (lg_sl ([.int x0, .int x1, .int x2]) ++ List.replicate (6 - (lg_sl ([.int x0, .int x1, .int x2])).length) Slot.unset).toArray = ls at hl ⊢
  have hl : lv_has ls 6 [(0, .int x0), (1, .int x1), (2, .int x2)] := hl
  generalize hQe : MQ below (kQi D cy zr A (wX2_areAtRest cy )) ([.int x0, .int x1, .int x2] : List Value).toArray s 0 0 A = Q
  have J48 : ∀ (H : Heap) (locs : List Loc) (ls : Array Slot), va_P D vwCl (wX2_areAtRest cy ) H → va_D A (wX2_areAtRest cy ) → va_S A s.heap H locs → lv_has ls 6 [] → fX2_areAtRest_J48 = some zr → W p l e ({ frames := 1, cells := 0, slots := 0, locals := 23 } : Room) s m ([.int x0, .int x1, .int x2] : List Value).toArray below meth c H locs 0 0 Q (F0 m 48 ls []) := by
    intro  H locs ls hP hD hS hl hok
    unfold fX2_areAtRest_J48 at hok
    refine lv_iconst (v := 0) hx hb dX2_areAtRest_48 (by decide) ?_
    cases hok
    subst hQe; exact W.zret hx hb hr rfl (fun t ht hW => ⟨⟨_, (), rfl, rfl, by rw [ht]; exact hP, va_K.moved hW.alike hK, hD⟩, hS.F ht⟩) hS.2.2 dX2_areAtRest_49
  have L18 : ∀ (fuel : Nat) (y3_18 : Int32) (y4_18 : Int32) (y5_18 : Int32), ∀ (H : Heap) (locs : List Loc) (ls : Array Slot), va_P D vwCl (wX2_areAtRest cy ) H → va_D A (wX2_areAtRest cy ) → va_S A s.heap H locs → lv_has ls 6 [(0, .int x0), (1, .int x1), (2, .int x2), (3, .int y3_18), (4, .int y4_18), (5, .int y5_18)] → lp (fX2_areAtRest_B18 x0 x1 x2) fuel (y3_18, y4_18, y5_18) = some zr → W p l e ({ frames := 1, cells := 0, slots := 0, locals := 23 } : Room) s m ([.int x0, .int x1, .int x2] : List Value).toArray below meth c H locs 0 0 Q (F0 m 18 ls []) := by
    intro fuel
    induction fuel with
    | zero => intro y3_18 y4_18 y5_18 H locs ls hP hD hS hl hok; exact (lp_0 hok).elim
    | succ fuel ih18 =>
      intro y3_18 y4_18 y5_18 H locs ls hP hD hS hl hok
      obtain ⟨y18, hok, hL18, hR18⟩ := lp_step hok
      unfold fX2_areAtRest_B18 at hok
      try dsimp only at hok
      refine lv_iload hx hb dX2_areAtRest_18 (lv_at hl 5 rfl) ?_
      refine lv_bipush (v := 6) hx hb dX2_areAtRest_20 (by decide) ?_
      refine lv_icmp_gt (tgt := 56) hx hb dX2_areAtRest_22 (by decide) (fun c22 => ?_) (fun c22 => ?_)
      · have hok := k_pos c22 hok
        obtain ⟨e18, hok, he18⟩ := ex_some hok
        have hok := hok.trans (congrArg some (hL18 _ he18))
        refine lv_iconst (v := 1) hx hb dX2_areAtRest_56 (by decide) ?_
        cases hok
        subst hQe; exact W.zret hx hb hr rfl (fun t ht hW => ⟨⟨_, (), rfl, rfl, by rw [ht]; exact hP, va_K.moved hW.alike hK, hD⟩, hS.F ht⟩) hS.2.2 dX2_areAtRest_57
      · have hok := k_neg c22 hok
        refine lv_iload_n hx hb dX2_areAtRest_25 rfl (lv_at hl 0 rfl) ?_
        refine lv_iload hx hb dX2_areAtRest_26 (lv_at hl 5 rfl) ?_
        refine lv_iload_n hx hb dX2_areAtRest_28 rfl (lv_at hl 2 rfl) ?_
        obtain ⟨r29, hc29, hok⟩ := k_bind hok
        refine kCi (wc := (wX2_gain cy )) (wc2 := (wX2_gain cy )) (wr := []) (ws2 := (wX2_areAtRest cy )) (kRunS (As := [.int x0, .int y5_18, .int x2]) (rest := []) ⟨hx, hb, hml, hown, ht0⟩ (kX2_gain l D cy _ x0 y5_18 x2 r29 hc29 _ rfl) (va_cwS 3 ht0 (gS wd66 wd67 wd68 wd69) rfl rfl rfl (by decide +kernel) ⟨Nat.le_of_ble_eq_true rfl, Nat.le_of_ble_eq_true rfl⟩) hK hN hP hD [] rfl (by decide) rfl hl.1 rfl (Nat.le_of_ble_eq_true rfl) dX2_areAtRest_29 ⟨Nat.zero_le _, Nat.zero_le _⟩) hP hD hS hA [] [] rfl rfl (by decide) (by decide) [] (by decide) rfl rfl (fun H locs hP hD hS => ?_)
        refine lv_iload_n hx hb dX2_areAtRest_32 rfl (lv_at hl 3 rfl) ?_
        refine lv_icmp_gt (tgt := 48) hx hb dX2_areAtRest_33 (by decide) (fun c33 => ?_) (fun c33 => ?_)
        · have hok := k_pos c33 hok
          obtain ⟨e18, hok, he18⟩ := ex_some hok
          have hok := hok.trans (congrArg some (hL18 _ he18))
          exact J48  H locs ls hP hD hS (lv_sub hl [] rfl) hok
        · have hok := k_neg c33 hok
          refine lv_iload_n hx hb dX2_areAtRest_36 rfl (lv_at hl 0 rfl) ?_
          refine lv_iload hx hb dX2_areAtRest_37 (lv_at hl 5 rfl) ?_
          refine lv_iload_n hx hb dX2_areAtRest_39 rfl (lv_at hl 1 rfl) ?_
          obtain ⟨r40, hc40, hok⟩ := k_bind hok
          refine kCi (wc := (wX2_gain cy )) (wc2 := (wX2_gain cy )) (wr := []) (ws2 := (wX2_areAtRest cy )) (kRunS (As := [.int x0, .int y5_18, .int x1]) (rest := []) ⟨hx, hb, hml, hown, ht0⟩ (kX2_gain l D cy _ x0 y5_18 x1 r40 hc40 _ rfl) (va_cwS 3 ht0 (gS wd66 wd67 wd68 wd69) rfl rfl rfl (by decide +kernel) ⟨Nat.le_of_ble_eq_true rfl, Nat.le_of_ble_eq_true rfl⟩) hK hN hP hD [] rfl (by decide) rfl hl.1 rfl (Nat.le_of_ble_eq_true rfl) dX2_areAtRest_40 ⟨Nat.zero_le _, Nat.zero_le _⟩) hP hD hS hA [] [] rfl rfl (by decide) (by decide) [] (by decide) rfl rfl (fun H locs hP hD hS => ?_)
          refine lv_iload hx hb dX2_areAtRest_43 (lv_at hl 4 rfl) ?_
          refine lv_icmp_le (tgt := 50) hx hb dX2_areAtRest_45 (by decide) (fun c45 => ?_) (fun c45 => ?_)
          · have hok := k_pos c45 hok
            refine lv_iinc (v := (y5_18 + 1)) (lv' := [(5, .int (y5_18 + 1)), (0, .int x0), (1, .int x1), (2, .int x2), (3, .int y3_18), (4, .int y4_18)]) hx hb dX2_areAtRest_50 hl (k := 5) rfl (by first | rfl | decide) (by decide) rfl (fun ls hl => ?_)
            refine lv_goto (tgt := 18) hx hb dX2_areAtRest_53 (by decide) ?_
            exact ih18 y3_18 y4_18 (y5_18 + 1) H locs ls hP hD hS (lv_sub hl [1, 2, 3, 4, 5, 0] rfl) (hR18 _ (Option.some.inj hok).symm)
          · have hok := k_neg c45 hok
            obtain ⟨e18, hok, he18⟩ := ex_some hok
            have hok := hok.trans (congrArg some (hL18 _ he18))
            exact J48  H locs ls hP hD hS (lv_sub hl [] rfl) hok
  unfold fX2_areAtRest at hok
  obtain ⟨H, hH⟩ : ∃ H, H = s.heap := ⟨_, rfl⟩
  obtain ⟨locs, hlc⟩ : ∃ x : List Loc, x = [] := ⟨_, rfl⟩
  have hP : va_P D vwCl (wX2_areAtRest cy ) H := by rw [hH]; exact hP
  have hS : va_S A s.heap H locs := by rw [hH, hlc]; exact hS
  rw [show W p l e _ s m _ below meth c s.heap [] = W p l e _ s m _ below meth c H locs from by rw [hH, hlc]]
  refine lv_iload_n hx hb dX2_areAtRest_0 rfl (lv_at hl 0 rfl) ?_
  refine lv_iload_n hx hb dX2_areAtRest_1 rfl (lv_at hl 1 rfl) ?_
  refine lv_iload_n hx hb dX2_areAtRest_2 rfl (lv_at hl 2 rfl) ?_
  obtain ⟨r3, hc3, hok⟩ := k_bind hok
  refine kCi (wc := (wX2_gain cy )) (wc2 := (wX2_gain cy )) (wr := []) (ws2 := (wX2_areAtRest cy )) (kRunS (As := [.int x0, .int x1, .int x2]) (rest := []) ⟨hx, hb, hml, hown, ht0⟩ (kX2_gain l D cy _ x0 x1 x2 r3 hc3 _ rfl) (va_cwS 3 ht0 (gS wd66 wd67 wd68 wd69) rfl rfl rfl (by decide +kernel) ⟨Nat.le_of_ble_eq_true rfl, Nat.le_of_ble_eq_true rfl⟩) hK hN hP hD [] rfl (by decide) rfl hl.1 rfl (Nat.le_of_ble_eq_true rfl) dX2_areAtRest_3 ⟨Nat.zero_le _, Nat.zero_le _⟩) hP hD hS hA [] [] rfl rfl (by decide) (by decide) [] (by decide) rfl rfl (fun H locs hP hD hS => ?_)
  refine lv_istore_n (lv' := [(3, .int r3), (0, .int x0), (1, .int x1), (2, .int x2)]) hx hb dX2_areAtRest_6 rfl hl (by decide) rfl (fun ls hl => ?_)
  refine lv_iload_n hx hb dX2_areAtRest_7 rfl (lv_at hl 1 rfl) ?_
  refine lv_iload_n hx hb dX2_areAtRest_8 rfl (lv_at hl 3 rfl) ?_
  refine lv_iload_n hx hb dX2_areAtRest_9 rfl (lv_at hl 2 rfl) ?_
  obtain ⟨r10, hc10, hok⟩ := k_bind hok
  refine kCi (wc := (wX2_gain cy )) (wc2 := (wX2_gain cy )) (wr := []) (ws2 := (wX2_areAtRest cy )) (kRunS (As := [.int x0, .int x2, .int x1]) (rest := []) ⟨hx, hb, hml, hown, ht0⟩ (kX2_gain l D cy _ x0 x2 x1 r10 hc10 _ rfl) (va_cwS 3 ht0 (gS wd66 wd67 wd68 wd69) rfl rfl rfl (by decide +kernel) ⟨Nat.le_of_ble_eq_true rfl, Nat.le_of_ble_eq_true rfl⟩) hK hN hP hD [] rfl (by decide) rfl hl.1 rfl (Nat.le_of_ble_eq_true rfl) dX2_areAtRest_10 ⟨Nat.zero_le _, Nat.zero_le _⟩) hP hD hS hA [] [] rfl rfl (by decide) (by decide) [] (by decide) rfl rfl (fun H locs hP hD hS => ?_)
  refine lv_istore (lv' := [(4, .int r10), (3, .int r3), (0, .int x0), (1, .int x1), (2, .int x2)]) hx hb dX2_areAtRest_13 hl (by decide) rfl (fun ls hl => ?_)
  refine lv_iconst (v := 0) hx hb dX2_areAtRest_15 (by decide) ?_
  refine lv_istore (lv' := [(5, .int 0), (4, .int r10), (3, .int r3), (0, .int x0), (1, .int x1), (2, .int x2)]) hx hb dX2_areAtRest_16 hl (by decide) rfl (fun ls hl => ?_)
  exact L18 5000 r3 r10 (0 : Int32) H locs ls hP hD hS (lv_sub hl [3, 4, 5, 2, 1, 0] rfl) hok
def wsX4_kindOf : List Cond := .code yX4_kindOf cX4_kindOf 2 (some .int) :: W0
abbrev wX4_kindOf (cy : Nat → ClassId) (aH : Nat) (qH : Nat → Nat) (vH : Nat → Int32) (vH_kinds : Nat → Int32) : va_W := [(aH, oX4 vH qH), (qH 14, rI cy 7 vH_kinds)]
set_option maxHeartbeats 4000000 in
set_option maxRecDepth 100000 in
theorem kX4_kindOf (l : Launch) (D : va_G) (cy : Nat → ClassId) (sz : Nat) (aH : Nat) (qH : Nat → Nat) (vH : Nat → Int32) (vH_kinds : Nat → Int32) (x1 : Int32) (zr : Int32) (hok : fX4_kindOf vH vH_kinds x1 = some zr) (A : Nat → Prop) (hAe : va_A (wX4_kindOf cy aH qH vH vH_kinds) sz = A) : Met l yX4_kindOf wsX4_kindOf ({ frames := 0, cells := 0, slots := 0, locals := 0 } : Room) (kPre D cy [.ref aH, .int x1] (wX4_kindOf cy aH qH vH vH_kinds) sz) (kQi D cy zr A (wX4_kindOf cy aH qH vH vH_kinds)) 0 0 A := by
  refine Met.ofW (cc := cX4_kindOf) (maxL := 2) (ret := (some .int)) (by decide) rfl ?_
  intro p e s m args below meth c s₁ B hml hv
  obtain ⟨rfl, hsz, hP, hK, hD0, hN⟩ := hv
  have hx := B.exec
  have hb := B.bytes
  have hr := B.returns
  have ht0 : ∀ w ∈ W0, w.before _ s = true := fun w h => atoms_spec (ws := wsX4_kindOf) B.pre w (List.mem_cons_of_mem _ h)
  have hown : s.vm.findClass RX4 = some m.cls := findClass_of_methodNamed B.named
  have hlocks := B.notSynchronized
  subst hsz
  have hD : va_D A (wX4_kindOf cy aH qH vH vH_kinds) := by rw [← hAe]; exact hD0.self
  have hA : ∀ q : Nat, s.heap.size ≤ q → A q := fun q h => by rw [← hAe]; exact Or.inr h
  have hS : va_S A s.heap s.heap [] := va_S.rf
  have hl := lv_entry ([.ref aH, .int x1]) (n := 2) (Nat.le_of_ble_eq_true rfl)
  rw [lg_entry_eq]
  generalize (lg_sl ([.ref aH, .int x1]) ++ List.replicate (2 - (lg_sl ([.ref aH, .int x1])).length) Slot.unset).toArray = ls at hl ⊢
  have hl : lv_has ls 2 [(0, .ref aH), (1, .int x1)] := hl
  generalize hQe : MQ below (kQi D cy zr A (wX4_kindOf cy aH qH vH vH_kinds)) ([.ref aH, .int x1] : List Value).toArray s 0 0 A = Q
  have J20 : ∀ (t0_20 : Int32), ∀ (H : Heap) (locs : List Loc) (ls : Array Slot), va_P D vwCl (wX4_kindOf cy aH qH vH vH_kinds) H → va_D A (wX4_kindOf cy aH qH vH vH_kinds) → va_S A s.heap H locs → lv_has ls 2 [] → fX4_kindOf_J20 t0_20 = some zr → W p l e ({ frames := 0, cells := 0, slots := 0, locals := 0 } : Room) s m ([.ref aH, .int x1] : List Value).toArray below meth c H locs 0 0 Q (F0 m 20 ls [.int t0_20]) := by
    intro t0_20 H locs ls hP hD hS hl hok
    unfold fX4_kindOf_J20 at hok
    cases hok
    subst hQe; exact W.iret hx hb hr (fun t ht hW => ⟨⟨_, (), rfl, rfl, by rw [ht]; exact hP, va_K.moved hW.alike hK, hD⟩, hS.F ht⟩) hS.2.2 dX4_kindOf_20
  have J19 : ∀ (H : Heap) (locs : List Loc) (ls : Array Slot), va_P D vwCl (wX4_kindOf cy aH qH vH vH_kinds) H → va_D A (wX4_kindOf cy aH qH vH vH_kinds) → va_S A s.heap H locs → lv_has ls 2 [] → fX4_kindOf_J19 = some zr → W p l e ({ frames := 0, cells := 0, slots := 0, locals := 0 } : Room) s m ([.ref aH, .int x1] : List Value).toArray below meth c H locs 0 0 Q (F0 m 19 ls []) := by
    intro  H locs ls hP hD hS hl hok
    unfold fX4_kindOf_J19 at hok
    refine lv_iconst (v := 0) hx hb dX4_kindOf_19 (by decide) ?_
    exact J20 (0 : Int32) H locs ls hP hD hS (lv_sub hl [] rfl) hok
  unfold fX4_kindOf at hok
  obtain ⟨H, hH⟩ : ∃ H, H = s.heap := ⟨_, rfl⟩
  obtain ⟨locs, hlc⟩ : ∃ x : List Loc, x = [] := ⟨_, rfl⟩
  have hP : va_P D vwCl (wX4_kindOf cy aH qH vH vH_kinds) H := by rw [hH]; exact hP
  have hS : va_S A s.heap H locs := by rw [hH, hlc]; exact hS
  rw [show W p l e _ s m _ below meth c s.heap [] = W p l e _ s m _ below meth c H locs from by rw [hH, hlc]]
  refine lv_iload_n hx hb dX4_kindOf_0 rfl (lv_at hl 1 rfl) ?_
  refine lv_if_lt (tgt := 19) hx hb dX4_kindOf_1 (by decide) (fun c1 => ?_) (fun c1 => ?_)
  · have hok := k_pos c1 hok
    exact J19  H locs ls hP hD hS (lv_sub hl [] rfl) hok
  · have hok := k_neg c1 hok
    refine lv_iload_n hx hb dX4_kindOf_4 rfl (lv_at hl 1 rfl) ?_
    refine lv_bipush (v := 7) hx hb dX4_kindOf_5 (by decide) ?_
    refine lv_icmp_ge (tgt := 19) hx hb dX4_kindOf_7 (by decide) (fun c7 => ?_) (fun c7 => ?_)
    · have hok := k_pos c7 hok
      exact J19  H locs ls hP hD hS (lv_sub hl [] rfl) hok
    · have hok := k_neg c7 hok
      refine lv_aload_n hx hb dX4_kindOf_10 rfl (lv_at hl 0 rfl) ?_
      refine va_get (D := D) (ci := 3) (v := .ref (qH 14)) (C := RX4) (T := TX4) (N := 20) hx hb ht0 niX4 hown hK hP 0 rfl rfl 14 (by decide) (ht0 _ wd70) (fun _ h9 => h9) rfl dX4_kindOf_11 ?_
      refine lv_iload_n hx hb dX4_kindOf_14 rfl (lv_at hl 1 rfl) ?_
      obtain ⟨g15, hok⟩ := gd_some hok
      refine va_iald hx hb hK hP 1 0 rfl rfl (okI_in g15) dX4_kindOf_15 ?_
      refine lv_goto (tgt := 20) hx hb dX4_kindOf_16 (by decide) ?_
      exact J20 (vH_kinds x1.toNatClampNeg) H locs ls hP hD hS (lv_sub hl [] rfl) hok
def wsX3_freeIn : List Cond := .code yX3_freeIn cX3_freeIn 6 (some .int) :: W0
abbrev wX3_freeIn (cy : Nat → ClassId) (aH : Nat) (aD : Nat) (qH : Nat → Nat) (qD : Nat → Nat) (vH : Nat → Int32) (vD : Nat → Int32) (vD_now : Nat → Int32) (vH_kinds : Nat → Int32) : va_W := [(aH, oX4 vH qH), (aD, oX1 vD qD), (qD 0, rI cy 9 vD_now), (qH 14, rI cy 7 vH_kinds)]
set_option maxHeartbeats 4000000 in
set_option maxRecDepth 100000 in
theorem kX3_freeIn (l : Launch) (D : va_G) (cy : Nat → ClassId) (sz : Nat) (aH : Nat) (aD : Nat) (qH : Nat → Nat) (qD : Nat → Nat) (vH : Nat → Int32) (vD : Nat → Int32) (vD_now : Nat → Int32) (vH_kinds : Nat → Int32) (x2 : Int32) (zr : Int32) (hok : fX3_freeIn vH vD vD_now vH_kinds x2 = some zr) (A : Nat → Prop) (hAe : va_A (wX3_freeIn cy aH aD qH qD vH vD vD_now vH_kinds) sz = A) : Met l yX3_freeIn wsX3_freeIn ({ frames := 1, cells := 0, slots := 0, locals := 21 } : Room) (kPre D cy [.ref aH, .ref aD, .int x2] (wX3_freeIn cy aH aD qH qD vH vD vD_now vH_kinds) sz) (kQi D cy zr A (wX3_freeIn cy aH aD qH qD vH vD vD_now vH_kinds)) 0 0 A := by
  refine Met.ofW (cc := cX3_freeIn) (maxL := 6) (ret := (some .int)) (by decide) rfl ?_
  intro p e s m args below meth c s₁ B hml hv
  obtain ⟨rfl, hsz, hP, hK, hD0, hN⟩ := hv
  have hx := B.exec
  have hb := B.bytes
  have hr := B.returns
  have ht0 : ∀ w ∈ W0, w.before _ s = true := fun w h => atoms_spec (ws := wsX3_freeIn) B.pre w (List.mem_cons_of_mem _ h)
  have hown : s.vm.findClass RX3 = some m.cls := findClass_of_methodNamed B.named
  have hlocks := B.notSynchronized
  subst hsz
  have hD : va_D A (wX3_freeIn cy aH aD qH qD vH vD vD_now vH_kinds) := by rw [← hAe]; exact hD0.self
  have hA : ∀ q : Nat, s.heap.size ≤ q → A q := fun q h => by rw [← hAe]; exact Or.inr h
  have hS : va_S A s.heap s.heap [] := va_S.rf
  have hl := lv_entry ([.ref aH, .ref aD, .int x2]) (n := 6) (Nat.le_of_ble_eq_true rfl)
  rw [lg_entry_eq]
  generalize (lg_sl ([.ref aH, .ref aD, .int x2]) ++ List.replicate (6 - (lg_sl ([.ref aH, .ref aD, .int x2])).length) Slot.unset).toArray = ls at hl ⊢
  have hl : lv_has ls 6 [(0, .ref aH), (1, .ref aD), (2, .int x2)] := hl
  generalize hQe : MQ below (kQi D cy zr A (wX3_freeIn cy aH aD qH qD vH vD vD_now vH_kinds)) ([.ref aH, .ref aD, .int x2] : List Value).toArray s 0 0 A = Q
  have L5 : ∀ (fuel : Nat) (y3_5 : Int32) (y4_5 : Int32), ∀ (H : Heap) (locs : List Loc) (ls : Array Slot), va_P D vwCl (wX3_freeIn cy aH aD qH qD vH vD vD_now vH_kinds) H → va_D A (wX3_freeIn cy aH aD qH qD vH vD vD_now vH_kinds) → va_S A s.heap H locs → lv_has ls 6 [(0, .ref aH), (1, .ref aD), (2, .int x2), (3, .int y3_5), (4, .int y4_5)] → lp (fX3_freeIn_B5 vH vD vD_now vH_kinds x2) fuel (y3_5, y4_5) = some zr → W p l e ({ frames := 1, cells := 0, slots := 0, locals := 21 } : Room) s m ([.ref aH, .ref aD, .int x2] : List Value).toArray below meth c H locs 0 0 Q (F0 m 5 ls []) := by
    intro fuel
    induction fuel with
    | zero => intro y3_5 y4_5 H locs ls hP hD hS hl hok; exact (lp_0 hok).elim
    | succ fuel ih5 =>
      intro y3_5 y4_5 H locs ls hP hD hS hl hok
      obtain ⟨y5, hok, hL5, hR5⟩ := lp_step hok
      have J68 : ∀ (y3_68 : Int32), ∀ (H : Heap) (locs : List Loc) (ls : Array Slot), va_P D vwCl (wX3_freeIn cy aH aD qH qD vH vD vD_now vH_kinds) H → va_D A (wX3_freeIn cy aH aD qH qD vH vD vD_now vH_kinds) → va_S A s.heap H locs → lv_has ls 6 [(0, .ref aH), (1, .ref aD), (2, .int x2), (3, .int y3_68), (4, .int y4_5)] → fX3_freeIn_J68 y4_5 y3_68 = some y5 → W p l e ({ frames := 1, cells := 0, slots := 0, locals := 21 } : Room) s m ([.ref aH, .ref aD, .int x2] : List Value).toArray below meth c H locs 0 0 Q (F0 m 68 ls []) := by
        intro y3_68 H locs ls hP hD hS hl hok
        unfold fX3_freeIn_J68 at hok
        refine lv_iinc (v := (y4_5 + 1)) (lv' := [(4, .int (y4_5 + 1)), (0, .ref aH), (1, .ref aD), (2, .int x2), (3, .int y3_68)]) hx hb dX3_freeIn_68 hl (k := 4) rfl (by first | rfl | decide) (by decide) rfl (fun ls hl => ?_)
        refine lv_goto (tgt := 5) hx hb dX3_freeIn_71 (by decide) ?_
        exact ih5 y3_68 (y4_5 + 1) H locs ls hP hD hS (lv_sub hl [1, 2, 3, 4, 0] rfl) (hR5 _ (Option.some.inj hok).symm)
      have J35 : ∀ (t0_35 : Int32), ∀ (H : Heap) (locs : List Loc) (ls : Array Slot), va_P D vwCl (wX3_freeIn cy aH aD qH qD vH vD vD_now vH_kinds) H → va_D A (wX3_freeIn cy aH aD qH qD vH vD vD_now vH_kinds) → va_S A s.heap H locs → lv_has ls 6 [(0, .ref aH), (1, .ref aD), (2, .int x2), (3, .int y3_5), (4, .int y4_5)] → fX3_freeIn_J35 vH vD vD_now vH_kinds y3_5 y4_5 t0_35 = some y5 → W p l e ({ frames := 1, cells := 0, slots := 0, locals := 21 } : Room) s m ([.ref aH, .ref aD, .int x2] : List Value).toArray below meth c H locs 0 0 Q (F0 m 35 ls [.int t0_35]) := by
        intro t0_35 H locs ls hP hD hS hl hok
        unfold fX3_freeIn_J35 at hok
        refine lv_istore (lv' := [(5, .int t0_35), (0, .ref aH), (1, .ref aD), (2, .int x2), (3, .int y3_5), (4, .int y4_5)]) hx hb dX3_freeIn_35 hl (by decide) rfl (fun ls hl => ?_)
        refine lv_iload hx hb dX3_freeIn_37 (lv_at hl 0 rfl) ?_
        refine lv_if_eq (tgt := 68) hx hb dX3_freeIn_39 (by decide) (fun c39 => ?_) (fun c39 => ?_)
        · have hok := k_pos c39 hok
          exact J68 y3_5 H locs ls hP hD hS (lv_sub hl [1, 2, 3, 4, 5] rfl) hok
        · have hok := k_neg c39 hok
          refine lv_aload_n hx hb dX3_freeIn_42 rfl (lv_at hl 2 rfl) ?_
          refine lv_iload hx hb dX3_freeIn_43 (lv_at hl 5 rfl) ?_
          obtain ⟨r45, hc45, hok⟩ := k_bind hok
          refine kCi (wc := (wX1_isHeld cy aD qD vD vD_now)) (wc2 := (wX1_isHeld cy aD qD vD vD_now)) (wr := [(aH, oX4 vH qH), (qH 14, rI cy 7 vH_kinds)]) (ws2 := (wX3_freeIn cy aH aD qH qD vH vD vD_now vH_kinds)) (kRunV (As := [.int y4_5]) (rest := []) ⟨hx, hb, hml, hown, ht0⟩ (kX1_isHeld l D cy _ aD qD vD vD_now y4_5 r45 hc45 _ rfl) (cwV 1 ht0 (gV wd71 wd72 wd73 wd74 wd75) rfl rfl rfl (by decide +kernel) ⟨Nat.le_of_ble_eq_true rfl, Nat.le_of_ble_eq_true rfl⟩) hK hN hP hD [1, 2] rfl (by decide) 1 1 rfl rfl rfl hl.1 rfl (Nat.le_of_ble_eq_true rfl) dX3_freeIn_45 ⟨Nat.zero_le _, Nat.zero_le _⟩) hP hD hS hA [1, 2] [0, 3] rfl rfl (by decide) (by decide) [0, 2, 3, 1] (by decide) rfl rfl (fun H locs hP hD hS => ?_)
          refine lv_if_ne (tgt := 68) hx hb dX3_freeIn_48 (by decide) (fun c48 => ?_) (fun c48 => ?_)
          · have hok := k_neg c48 hok
            exact J68 y3_5 H locs ls hP hD hS (lv_sub hl [1, 2, 3, 4, 5] rfl) hok
          · have hok := k_pos c48 hok
            refine lv_aload_n hx hb dX3_freeIn_51 rfl (lv_at hl 1 rfl) ?_
            refine lv_iload hx hb dX3_freeIn_52 (lv_at hl 5 rfl) ?_
            obtain ⟨r54, hc54, hok⟩ := k_bind hok
            refine kCi (wc := (wX4_kindOf cy aH qH vH vH_kinds)) (wc2 := (wX4_kindOf cy aH qH vH vH_kinds)) (wr := [(aD, oX1 vD qD), (qD 0, rI cy 9 vD_now)]) (ws2 := (wX3_freeIn cy aH aD qH qD vH vD vD_now vH_kinds)) (kRunV (As := [.int y4_5]) (rest := []) ⟨hx, hb, hml, hown, ht0⟩ (kX4_kindOf l D cy _ aH qH vH vH_kinds y4_5 r54 hc54 _ rfl) (cwV 1 ht0 (gV wd76 wd77 wd78 wd9 wd79) rfl rfl rfl (by decide +kernel) ⟨Nat.le_of_ble_eq_true rfl, Nat.le_of_ble_eq_true rfl⟩) hK hN hP hD [0, 3] rfl (by decide) 0 3 rfl rfl rfl hl.1 rfl (Nat.le_of_ble_eq_true rfl) dX3_freeIn_54 ⟨Nat.zero_le _, Nat.zero_le _⟩) hP hD hS hA [0, 3] [1, 2] rfl rfl (by decide) (by decide) [2, 0, 1, 3] (by decide) rfl rfl (fun H locs hP hD hS => ?_)
            refine lv_iconst (v := 2) hx hb dX3_freeIn_57 (by decide) ?_
            refine lv_icmp_eq (tgt := 68) hx hb dX3_freeIn_58 (by decide) (fun c58 => ?_) (fun c58 => ?_)
            · have hok := k_pos c58 hok
              exact J68 y3_5 H locs ls hP hD hS (lv_sub hl [1, 2, 3, 4, 5] rfl) hok
            · have hok := k_neg c58 hok
              refine lv_iload_n hx hb dX3_freeIn_61 rfl (lv_at hl 4 rfl) ?_
              refine lv_iconst (v := 1) hx hb dX3_freeIn_62 (by decide) ?_
              refine lv_iload hx hb dX3_freeIn_63 (lv_at hl 5 rfl) ?_
              refine lv_ishl hx hb dX3_freeIn_65 ?_
              refine lv_ior hx hb dX3_freeIn_66 ?_
              refine lv_istore_n (lv' := [(3, .int (y3_5 ||| (isl (1 : Int32) y4_5))), (5, .int t0_35), (0, .ref aH), (1, .ref aD), (2, .int x2), (4, .int y4_5)]) hx hb dX3_freeIn_67 rfl hl (by decide) rfl (fun ls hl => ?_)
              exact J68 (y3_5 ||| (isl (1 : Int32) y4_5)) H locs ls hP hD hS (lv_sub hl [2, 3, 4, 0, 5] rfl) hok
      unfold fX3_freeIn_B5 at hok
      try dsimp only at hok
      refine lv_iload hx hb dX3_freeIn_5 (lv_at hl 4 rfl) ?_
      refine lv_aload_n hx hb dX3_freeIn_7 rfl (lv_at hl 0 rfl) ?_
      refine va_get (D := D) (ci := 3) (v := .int (vH 5)) (C := RX4) (T := TX4) (N := 20) hx hb ht0 niX4 hown hK hP 0 rfl rfl 5 (by decide) (ht0 _ wd80) (fun _ h9 => h9) rfl dX3_freeIn_8 ?_
      refine lv_icmp_ge (tgt := 74) hx hb dX3_freeIn_11 (by decide) (fun c11 => ?_) (fun c11 => ?_)
      · have hok := k_pos c11 hok
        obtain ⟨e5, hok, he5⟩ := ex_some hok
        have hok := hok.trans (congrArg some (hL5 _ he5))
        refine lv_iload_n hx hb dX3_freeIn_74 rfl (lv_at hl 3 rfl) ?_
        cases hok
        subst hQe; exact W.iret hx hb hr (fun t ht hW => ⟨⟨_, (), rfl, rfl, by rw [ht]; exact hP, va_K.moved hW.alike hK, hD⟩, hS.F ht⟩) hS.2.2 dX3_freeIn_75
      · have hok := k_neg c11 hok
        refine lv_iload_n hx hb dX3_freeIn_14 rfl (lv_at hl 2 rfl) ?_
        refine lv_aload_n hx hb dX3_freeIn_15 rfl (lv_at hl 1 rfl) ?_
        refine lv_iload hx hb dX3_freeIn_16 (lv_at hl 4 rfl) ?_
        obtain ⟨r18, hc18, hok⟩ := k_bind hok
        refine kCi (wc := (wX1_cellOf cy aD qD vD vD_now)) (wc2 := (wX1_cellOf cy aD qD vD vD_now)) (wr := [(aH, oX4 vH qH), (qH 14, rI cy 7 vH_kinds)]) (ws2 := (wX3_freeIn cy aH aD qH qD vH vD vD_now vH_kinds)) (kRunV (As := [.int y4_5]) (rest := [.int x2]) ⟨hx, hb, hml, hown, ht0⟩ (kX1_cellOf l D cy _ aD qD vD vD_now y4_5 r18 hc18 _ rfl) (cwV 1 ht0 (gV wd81 wd82 wd83 wd74 wd84) rfl rfl rfl (by decide +kernel) ⟨Nat.le_of_ble_eq_true rfl, Nat.le_of_ble_eq_true rfl⟩) hK hN hP hD [1, 2] rfl (by decide) 1 1 rfl rfl rfl hl.1 rfl (Nat.le_of_ble_eq_true rfl) dX3_freeIn_18 ⟨Nat.zero_le _, Nat.zero_le _⟩) hP hD hS hA [1, 2] [0, 3] rfl rfl (by decide) (by decide) [0, 2, 3, 1] (by decide) rfl rfl (fun H locs hP hD hS => ?_)
        obtain ⟨r21, hc21, hok⟩ := k_bind hok
        refine kCi (wc := (wX8_ringOfCell cy )) (wc2 := (wX8_ringOfCell cy )) (wr := [(aH, oX4 vH qH), (aD, oX1 vD qD), (qD 0, rI cy 9 vD_now), (qH 14, rI cy 7 vH_kinds)]) (ws2 := (wX3_freeIn cy aH aD qH qD vH vD vD_now vH_kinds)) (kRunSN (As := [.int r18]) (rest := [.int x2]) ⟨hx, hb, hml, hown, ht0⟩ (kX8_ringOfCell l D cy _ r18 r21 hc21 _ rfl) ⟨va_cnB 1 ht0 (gN wd56) rfl rfl rfl (hN _ (List.mem_of_getElem? (i := 2) rfl)) (ht0 _ wd57) (by decide +kernel) ⟨Nat.le_of_ble_eq_true rfl, Nat.le_of_ble_eq_true rfl⟩, ht0 _ wd58, trivial⟩ hK hN hP hD [] rfl (by decide) rfl hl.1 rfl (Nat.le_of_ble_eq_true rfl) dX3_freeIn_21 ⟨Nat.zero_le _, Nat.zero_le _⟩) hP hD hS hA [] [0, 1, 2, 3] rfl rfl (by decide) (by decide) [0, 1, 2, 3] (by decide) rfl rfl (fun H locs hP hD hS => ?_)
        refine lv_ishr hx hb dX3_freeIn_24 ?_
        refine lv_iconst (v := 1) hx hb dX3_freeIn_25 (by decide) ?_
        refine lv_iand hx hb dX3_freeIn_26 ?_
        refine lv_if_eq (tgt := 34) hx hb dX3_freeIn_27 (by decide) (fun c27 => ?_) (fun c27 => ?_)
        · have hok := k_pos c27 hok
          refine lv_iconst (v := 0) hx hb dX3_freeIn_34 (by decide) ?_
          exact J35 (0 : Int32) H locs ls hP hD hS (lv_sub hl [0, 1, 2, 3, 4] rfl) hok
        · have hok := k_neg c27 hok
          refine lv_iconst (v := 1) hx hb dX3_freeIn_30 (by decide) ?_
          refine lv_goto (tgt := 35) hx hb dX3_freeIn_31 (by decide) ?_
          exact J35 (1 : Int32) H locs ls hP hD hS (lv_sub hl [0, 1, 2, 3, 4] rfl) hok
  unfold fX3_freeIn at hok
  obtain ⟨H, hH⟩ : ∃ H, H = s.heap := ⟨_, rfl⟩
  obtain ⟨locs, hlc⟩ : ∃ x : List Loc, x = [] := ⟨_, rfl⟩
  have hP : va_P D vwCl (wX3_freeIn cy aH aD qH qD vH vD vD_now vH_kinds) H := by rw [hH]; exact hP
  have hS : va_S A s.heap H locs := by rw [hH, hlc]; exact hS
  rw [show W p l e _ s m _ below meth c s.heap [] = W p l e _ s m _ below meth c H locs from by rw [hH, hlc]]
  refine lv_iconst (v := 0) hx hb dX3_freeIn_0 (by decide) ?_
  refine lv_istore_n (lv' := [(3, .int 0), (0, .ref aH), (1, .ref aD), (2, .int x2)]) hx hb dX3_freeIn_1 rfl hl (by decide) rfl (fun ls hl => ?_)
  refine lv_iconst (v := 0) hx hb dX3_freeIn_2 (by decide) ?_
  refine lv_istore (lv' := [(4, .int 0), (3, .int 0), (0, .ref aH), (1, .ref aD), (2, .int x2)]) hx hb dX3_freeIn_3 hl (by decide) rfl (fun ls hl => ?_)
  exact L5 5000 (0 : Int32) (0 : Int32) H locs ls hP hD hS (lv_sub hl [2, 3, 4, 1, 0] rfl) hok
def wsJ6_bitCount_0f7a4 : List Cond := .code yJ6_bitCount_0f7a4 cJ6_bitCount_0f7a4 1 (some .int) :: W0
abbrev wJ6_bitCount_0f7a4 (cy : Nat → ClassId)  : va_W := []
set_option maxHeartbeats 4000000 in
set_option maxRecDepth 100000 in
theorem kJ6_bitCount_0f7a4 (l : Launch) (D : va_G) (cy : Nat → ClassId) (sz : Nat) (x0 : Int32) (zr : Int32) (hok : fJ6_bitCount_0f7a4 x0 = some zr) (A : Nat → Prop) (hAe : va_A (wJ6_bitCount_0f7a4 cy ) sz = A) : Met l yJ6_bitCount_0f7a4 wsJ6_bitCount_0f7a4 ({ frames := 0, cells := 0, slots := 0, locals := 0 } : Room) (kPre D cy [.int x0] (wJ6_bitCount_0f7a4 cy ) sz) (kQi D cy zr A (wJ6_bitCount_0f7a4 cy )) 0 0 A := by
  refine Met.ofW (cc := cJ6_bitCount_0f7a4) (maxL := 1) (ret := (some .int)) (by decide) rfl ?_
  intro p e s m args below meth c s₁ B hml hv
  obtain ⟨rfl, hsz, hP, hK, hD0, hN⟩ := hv
  have hx := B.exec
  have hb := B.bytes
  have hr := B.returns
  have ht0 : ∀ w ∈ W0, w.before _ s = true := fun w h => atoms_spec (ws := wsJ6_bitCount_0f7a4) B.pre w (List.mem_cons_of_mem _ h)
  have hown : s.vm.findClass RJ6 = some m.cls := findClass_of_methodNamed B.named
  have hlocks := B.notSynchronized
  subst hsz
  have hD : va_D A (wJ6_bitCount_0f7a4 cy ) := by rw [← hAe]; exact hD0.self
  have hA : ∀ q : Nat, s.heap.size ≤ q → A q := fun q h => by rw [← hAe]; exact Or.inr h
  have hS : va_S A s.heap s.heap [] := va_S.rf
  have hl := lv_entry ([.int x0]) (n := 1) (Nat.le_of_ble_eq_true rfl)
  rw [lg_entry_eq]
  generalize (lg_sl ([.int x0]) ++ List.replicate (1 - (lg_sl ([.int x0])).length) Slot.unset).toArray = ls at hl ⊢
  have hl : lv_has ls 1 [(0, .int x0)] := hl
  unfold fJ6_bitCount_0f7a4 at hok
  obtain ⟨H, hH⟩ : ∃ H, H = s.heap := ⟨_, rfl⟩
  obtain ⟨locs, hlc⟩ : ∃ x : List Loc, x = [] := ⟨_, rfl⟩
  have hP : va_P D vwCl (wJ6_bitCount_0f7a4 cy ) H := by rw [hH]; exact hP
  have hS : va_S A s.heap H locs := by rw [hH, hlc]; exact hS
  rw [show W p l e _ s m _ below meth c s.heap [] = W p l e _ s m _ below meth c H locs from by rw [hH, hlc]]
  refine lv_iload_n hx hb dJ6_bitCount_0f7a4_0 rfl (lv_at hl 0 rfl) ?_
  refine lv_iload_n hx hb dJ6_bitCount_0f7a4_1 rfl (lv_at hl 0 rfl) ?_
  refine lv_iconst (v := 1) hx hb dJ6_bitCount_0f7a4_2 (by decide) ?_
  refine lv_iushr (v := (ius x0 (1 : Int32))) hx hb dJ6_bitCount_0f7a4_3 rfl ?_
  refine lv_ldcw (v := 1431655765) hx hb hown (ht0 _ wd85) dJ6_bitCount_0f7a4_4 ?_
  refine lv_iand hx hb dJ6_bitCount_0f7a4_7 ?_
  refine lv_isub hx hb dJ6_bitCount_0f7a4_8 ?_
  refine lv_istore_n (lv' := [(0, .int (x0 - ((ius x0 (1 : Int32)) &&& (1431655765 : Int32))))]) hx hb dJ6_bitCount_0f7a4_9 rfl hl (by decide) rfl (fun ls hl => ?_)
  refine lv_iload_n hx hb dJ6_bitCount_0f7a4_10 rfl (lv_at hl 0 rfl) ?_
  refine lv_ldcw (v := 858993459) hx hb hown (ht0 _ wd86) dJ6_bitCount_0f7a4_11 ?_
  refine lv_iand hx hb dJ6_bitCount_0f7a4_14 ?_
  refine lv_iload_n hx hb dJ6_bitCount_0f7a4_15 rfl (lv_at hl 0 rfl) ?_
  refine lv_iconst (v := 2) hx hb dJ6_bitCount_0f7a4_16 (by decide) ?_
  refine lv_iushr (v := (ius (x0 - ((ius x0 (1 : Int32)) &&& (1431655765 : Int32))) (2 : Int32))) hx hb dJ6_bitCount_0f7a4_17 rfl ?_
  refine lv_ldcw (v := 858993459) hx hb hown (ht0 _ wd86) dJ6_bitCount_0f7a4_18 ?_
  refine lv_iand hx hb dJ6_bitCount_0f7a4_21 ?_
  refine lv_iadd hx hb dJ6_bitCount_0f7a4_22 ?_
  refine lv_istore_n (lv' := [(0, .int (((x0 - ((ius x0 (1 : Int32)) &&& (1431655765 : Int32))) &&& (858993459 : Int32)) + ((ius (x0 - ((ius x0 (1 : Int32)) &&& (1431655765 : Int32))) (2 : Int32)) &&& (858993459 : Int32))))]) hx hb dJ6_bitCount_0f7a4_23 rfl hl (by decide) rfl (fun ls hl => ?_)
  refine lv_iload_n hx hb dJ6_bitCount_0f7a4_24 rfl (lv_at hl 0 rfl) ?_
  refine lv_iload_n hx hb dJ6_bitCount_0f7a4_25 rfl (lv_at hl 0 rfl) ?_
  refine lv_iconst (v := 4) hx hb dJ6_bitCount_0f7a4_26 (by decide) ?_
  refine lv_iushr (v := (ius (((x0 - ((ius x0 (1 : Int32)) &&& (1431655765 : Int32))) &&& (858993459 : Int32)) + ((ius (x0 - ((ius x0 (1 : Int32)) &&& (1431655765 : Int32))) (2 : Int32)) &&& (858993459 : Int32))) (4 : Int32))) hx hb dJ6_bitCount_0f7a4_27 rfl ?_
  refine lv_iadd hx hb dJ6_bitCount_0f7a4_28 ?_
  refine lv_ldcw (v := 252645135) hx hb hown (ht0 _ wd87) dJ6_bitCount_0f7a4_29 ?_
  refine lv_iand hx hb dJ6_bitCount_0f7a4_32 ?_
  refine lv_istore_n (lv' := [(0, .int (((((x0 - ((ius x0 (1 : Int32)) &&& (1431655765 : Int32))) &&& (858993459 : Int32)) + ((ius (x0 - ((ius x0 (1 : Int32)) &&& (1431655765 : Int32))) (2 : Int32)) &&& (858993459 : Int32))) + (ius (((x0 - ((ius x0 (1 : Int32)) &&& (1431655765 : Int32))) &&& (858993459 : Int32)) + ((ius (x0 - ((ius x0 (1 : Int32)) &&& (1431655765 : Int32))) (2 : Int32)) &&& (858993459 : Int32))) (4 : Int32))) &&& (252645135 : Int32)))]) hx hb dJ6_bitCount_0f7a4_33 rfl hl (by decide) rfl (fun ls hl => ?_)
  refine lv_iload_n hx hb dJ6_bitCount_0f7a4_34 rfl (lv_at hl 0 rfl) ?_
  refine lv_iload_n hx hb dJ6_bitCount_0f7a4_35 rfl (lv_at hl 0 rfl) ?_
  refine lv_bipush (v := 8) hx hb dJ6_bitCount_0f7a4_36 (by decide) ?_
  refine lv_iushr (v := (ius (((((x0 - ((ius x0 (1 : Int32)) &&& (1431655765 : Int32))) &&& (858993459 : Int32)) + ((ius (x0 - ((ius x0 (1 : Int32)) &&& (1431655765 : Int32))) (2 : Int32)) &&& (858993459 : Int32))) + (ius (((x0 - ((ius x0 (1 : Int32)) &&& (1431655765 : Int32))) &&& (858993459 : Int32)) + ((ius (x0 - ((ius x0 (1 : Int32)) &&& (1431655765 : Int32))) (2 : Int32)) &&& (858993459 : Int32))) (4 : Int32))) &&& (252645135 : Int32)) (8 : Int32))) hx hb dJ6_bitCount_0f7a4_38 rfl ?_
  refine lv_iadd hx hb dJ6_bitCount_0f7a4_39 ?_
  refine lv_istore_n (lv' := [(0, .int ((((((x0 - ((ius x0 (1 : Int32)) &&& (1431655765 : Int32))) &&& (858993459 : Int32)) + ((ius (x0 - ((ius x0 (1 : Int32)) &&& (1431655765 : Int32))) (2 : Int32)) &&& (858993459 : Int32))) + (ius (((x0 - ((ius x0 (1 : Int32)) &&& (1431655765 : Int32))) &&& (858993459 : Int32)) + ((ius (x0 - ((ius x0 (1 : Int32)) &&& (1431655765 : Int32))) (2 : Int32)) &&& (858993459 : Int32))) (4 : Int32))) &&& (252645135 : Int32)) + (ius (((((x0 - ((ius x0 (1 : Int32)) &&& (1431655765 : Int32))) &&& (858993459 : Int32)) + ((ius (x0 - ((ius x0 (1 : Int32)) &&& (1431655765 : Int32))) (2 : Int32)) &&& (858993459 : Int32))) + (ius (((x0 - ((ius x0 (1 : Int32)) &&& (1431655765 : Int32))) &&& (858993459 : Int32)) + ((ius (x0 - ((ius x0 (1 : Int32)) &&& (1431655765 : Int32))) (2 : Int32)) &&& (858993459 : Int32))) (4 : Int32))) &&& (252645135 : Int32)) (8 : Int32))))]) hx hb dJ6_bitCount_0f7a4_40 rfl hl (by decide) rfl (fun ls hl => ?_)
  refine lv_iload_n hx hb dJ6_bitCount_0f7a4_41 rfl (lv_at hl 0 rfl) ?_
  refine lv_iload_n hx hb dJ6_bitCount_0f7a4_42 rfl (lv_at hl 0 rfl) ?_
  refine lv_bipush (v := 16) hx hb dJ6_bitCount_0f7a4_43 (by decide) ?_
  refine lv_iushr (v := (ius ((((((x0 - ((ius x0 (1 : Int32)) &&& (1431655765 : Int32))) &&& (858993459 : Int32)) + ((ius (x0 - ((ius x0 (1 : Int32)) &&& (1431655765 : Int32))) (2 : Int32)) &&& (858993459 : Int32))) + (ius (((x0 - ((ius x0 (1 : Int32)) &&& (1431655765 : Int32))) &&& (858993459 : Int32)) + ((ius (x0 - ((ius x0 (1 : Int32)) &&& (1431655765 : Int32))) (2 : Int32)) &&& (858993459 : Int32))) (4 : Int32))) &&& (252645135 : Int32)) + (ius (((((x0 - ((ius x0 (1 : Int32)) &&& (1431655765 : Int32))) &&& (858993459 : Int32)) + ((ius (x0 - ((ius x0 (1 : Int32)) &&& (1431655765 : Int32))) (2 : Int32)) &&& (858993459 : Int32))) + (ius (((x0 - ((ius x0 (1 : Int32)) &&& (1431655765 : Int32))) &&& (858993459 : Int32)) + ((ius (x0 - ((ius x0 (1 : Int32)) &&& (1431655765 : Int32))) (2 : Int32)) &&& (858993459 : Int32))) (4 : Int32))) &&& (252645135 : Int32)) (8 : Int32))) (16 : Int32))) hx hb dJ6_bitCount_0f7a4_45 rfl ?_
  refine lv_iadd hx hb dJ6_bitCount_0f7a4_46 ?_
  refine lv_istore_n (lv' := [(0, .int (((((((x0 - ((ius x0 (1 : Int32)) &&& (1431655765 : Int32))) &&& (858993459 : Int32)) + ((ius (x0 - ((ius x0 (1 : Int32)) &&& (1431655765 : Int32))) (2 : Int32)) &&& (858993459 : Int32))) + (ius (((x0 - ((ius x0 (1 : Int32)) &&& (1431655765 : Int32))) &&& (858993459 : Int32)) + ((ius (x0 - ((ius x0 (1 : Int32)) &&& (1431655765 : Int32))) (2 : Int32)) &&& (858993459 : Int32))) (4 : Int32))) &&& (252645135 : Int32)) + (ius (((((x0 - ((ius x0 (1 : Int32)) &&& (1431655765 : Int32))) &&& (858993459 : Int32)) + ((ius (x0 - ((ius x0 (1 : Int32)) &&& (1431655765 : Int32))) (2 : Int32)) &&& (858993459 : Int32))) + (ius (((x0 - ((ius x0 (1 : Int32)) &&& (1431655765 : Int32))) &&& (858993459 : Int32)) + ((ius (x0 - ((ius x0 (1 : Int32)) &&& (1431655765 : Int32))) (2 : Int32)) &&& (858993459 : Int32))) (4 : Int32))) &&& (252645135 : Int32)) (8 : Int32))) + (ius ((((((x0 - ((ius x0 (1 : Int32)) &&& (1431655765 : Int32))) &&& (858993459 : Int32)) + ((ius (x0 - ((ius x0 (1 : Int32)) &&& (1431655765 : Int32))) (2 : Int32)) &&& (858993459 : Int32))) + (ius (((x0 - ((ius x0 (1 : Int32)) &&& (1431655765 : Int32))) &&& (858993459 : Int32)) + ((ius (x0 - ((ius x0 (1 : Int32)) &&& (1431655765 : Int32))) (2 : Int32)) &&& (858993459 : Int32))) (4 : Int32))) &&& (252645135 : Int32)) + (ius (((((x0 - ((ius x0 (1 : Int32)) &&& (1431655765 : Int32))) &&& (858993459 : Int32)) + ((ius (x0 - ((ius x0 (1 : Int32)) &&& (1431655765 : Int32))) (2 : Int32)) &&& (858993459 : Int32))) + (ius (((x0 - ((ius x0 (1 : Int32)) &&& (1431655765 : Int32))) &&& (858993459 : Int32)) + ((ius (x0 - ((ius x0 (1 : Int32)) &&& (1431655765 : Int32))) (2 : Int32)) &&& (858993459 : Int32))) (4 : Int32))) &&& (252645135 : Int32)) (8 : Int32))) (16 : Int32))))]) hx hb dJ6_bitCount_0f7a4_47 rfl hl (by decide) rfl (fun ls hl => ?_)
  refine lv_iload_n hx hb dJ6_bitCount_0f7a4_48 rfl (lv_at hl 0 rfl) ?_
  refine lv_bipush (v := 63) hx hb dJ6_bitCount_0f7a4_49 (by decide) ?_
  refine lv_iand hx hb dJ6_bitCount_0f7a4_51 ?_
  cases hok
  exact W.iret hx hb hr (fun t ht hW => ⟨⟨_, (), rfl, rfl, by rw [ht]; exact hP, va_K.moved hW.alike hK, hD⟩, hS.F ht⟩) hS.2.2 dJ6_bitCount_0f7a4_52
def wsX3_isOfThese : List Cond := .code yX3_isOfThese cX3_isOfThese 3 (some .boolean) :: W0
abbrev wX3_isOfThese (cy : Nat → ClassId)  : va_W := []
set_option maxHeartbeats 4000000 in
set_option maxRecDepth 100000 in
theorem kX3_isOfThese (l : Launch) (D : va_G) (cy : Nat → ClassId) (sz : Nat) (x0 : Int32) (x1 : Int32) (x2 : Int32) (zr : Int32) (hok : fX3_isOfThese x0 x1 x2 = some zr) (A : Nat → Prop) (hAe : va_A (wX3_isOfThese cy ) sz = A) : Met l yX3_isOfThese wsX3_isOfThese ({ frames := 1, cells := 0, slots := 0, locals := 20 } : Room) (kPre D cy [.int x0, .int x1, .int x2] (wX3_isOfThese cy ) sz) (kQi D cy zr A (wX3_isOfThese cy )) 0 0 A := by
  refine Met.ofW (cc := cX3_isOfThese) (maxL := 3) (ret := (some .boolean)) (by decide) rfl ?_
  intro p e s m args below meth c s₁ B hml hv
  obtain ⟨rfl, hsz, hP, hK, hD0, hN⟩ := hv
  have hx := B.exec
  have hb := B.bytes
  have hr := B.returns
  have ht0 : ∀ w ∈ W0, w.before _ s = true := fun w h => atoms_spec (ws := wsX3_isOfThese) B.pre w (List.mem_cons_of_mem _ h)
  have hown : s.vm.findClass RX3 = some m.cls := findClass_of_methodNamed B.named
  have hlocks := B.notSynchronized
  subst hsz
  have hD : va_D A (wX3_isOfThese cy ) := by rw [← hAe]; exact hD0.self
  have hA : ∀ q : Nat, s.heap.size ≤ q → A q := fun q h => by rw [← hAe]; exact Or.inr h
  have hS : va_S A s.heap s.heap [] := va_S.rf
  have hl := lv_entry ([.int x0, .int x1, .int x2]) (n := 3) (Nat.le_of_ble_eq_true rfl)
  rw [lg_entry_eq]
  generalize (lg_sl ([.int x0, .int x1, .int x2]) ++ List.replicate (3 - (lg_sl ([.int x0, .int x1, .int x2])).length) Slot.unset).toArray = ls at hl ⊢
  have hl : lv_has ls 3 [(0, .int x0), (1, .int x1), (2, .int x2)] := hl
  generalize hQe : MQ below (kQi D cy zr A (wX3_isOfThese cy )) ([.int x0, .int x1, .int x2] : List Value).toArray s 0 0 A = Q
  have J21 : ∀ (t0_21 : Int32), ∀ (H : Heap) (locs : List Loc) (ls : Array Slot), va_P D vwCl (wX3_isOfThese cy ) H → va_D A (wX3_isOfThese cy ) → va_S A s.heap H locs → lv_has ls 3 [] → fX3_isOfThese_J21 t0_21 = some zr → W p l e ({ frames := 1, cells := 0, slots := 0, locals := 20 } : Room) s m ([.int x0, .int x1, .int x2] : List Value).toArray below meth c H locs 0 0 Q (F0 m 21 ls [.int t0_21]) := by
    intro t0_21 H locs ls hP hD hS hl hok
    unfold fX3_isOfThese_J21 at hok
    obtain ⟨g21, hok⟩ := gd_some hok
    cases hok
    subst hQe; exact W.zret hx hb hr (isB_nar g21) (fun t ht hW => ⟨⟨_, (), rfl, rfl, by rw [ht]; exact hP, va_K.moved hW.alike hK, hD⟩, hS.F ht⟩) hS.2.2 dX3_isOfThese_21
  have J20 : ∀ (H : Heap) (locs : List Loc) (ls : Array Slot), va_P D vwCl (wX3_isOfThese cy ) H → va_D A (wX3_isOfThese cy ) → va_S A s.heap H locs → lv_has ls 3 [] → fX3_isOfThese_J20 = some zr → W p l e ({ frames := 1, cells := 0, slots := 0, locals := 20 } : Room) s m ([.int x0, .int x1, .int x2] : List Value).toArray below meth c H locs 0 0 Q (F0 m 20 ls []) := by
    intro  H locs ls hP hD hS hl hok
    unfold fX3_isOfThese_J20 at hok
    refine lv_iconst (v := 0) hx hb dX3_isOfThese_20 (by decide) ?_
    exact J21 (0 : Int32) H locs ls hP hD hS (lv_sub hl [] rfl) hok
  unfold fX3_isOfThese at hok
  obtain ⟨H, hH⟩ : ∃ H, H = s.heap := ⟨_, rfl⟩
  obtain ⟨locs, hlc⟩ : ∃ x : List Loc, x = [] := ⟨_, rfl⟩
  have hP : va_P D vwCl (wX3_isOfThese cy ) H := by rw [hH]; exact hP
  have hS : va_S A s.heap H locs := by rw [hH, hlc]; exact hS
  rw [show W p l e _ s m _ below meth c s.heap [] = W p l e _ s m _ below meth c H locs from by rw [hH, hlc]]
  refine lv_iload_n hx hb dX3_isOfThese_0 rfl (lv_at hl 0 rfl) ?_
  refine lv_iload_n hx hb dX3_isOfThese_1 rfl (lv_at hl 2 rfl) ?_
  refine lv_iconst (v := -1) hx hb dX3_isOfThese_2 (by decide) ?_
  refine lv_ixor hx hb dX3_isOfThese_3 ?_
  refine lv_iand hx hb dX3_isOfThese_4 ?_
  refine lv_if_ne (tgt := 20) hx hb dX3_isOfThese_5 (by decide) (fun c5 => ?_) (fun c5 => ?_)
  · have hok := k_neg c5 hok
    exact J20  H locs ls hP hD hS (lv_sub hl [] rfl) hok
  · have hok := k_pos c5 hok
    refine lv_iload_n hx hb dX3_isOfThese_8 rfl (lv_at hl 0 rfl) ?_
    obtain ⟨r9, hc9, hok⟩ := k_bind hok
    refine kCi (wc := (wJ6_bitCount_0f7a4 cy )) (wc2 := (wJ6_bitCount_0f7a4 cy )) (wr := []) (ws2 := (wX3_isOfThese cy )) (kRunS (As := [.int x0]) (rest := []) ⟨hx, hb, hml, hown, ht0⟩ (kJ6_bitCount_0f7a4 l D cy _ x0 r9 hc9 _ rfl) (va_cwS 1 ht0 (gS wd88 wd89 wd90 wd91) rfl rfl rfl (by decide +kernel) ⟨Nat.le_of_ble_eq_true rfl, Nat.le_of_ble_eq_true rfl⟩) hK hN hP hD [] rfl (by decide) rfl hl.1 rfl (Nat.le_of_ble_eq_true rfl) dX3_isOfThese_9 ⟨Nat.zero_le _, Nat.zero_le _⟩) hP hD hS hA [] [] rfl rfl (by decide) (by decide) [] (by decide) rfl rfl (fun H locs hP hD hS => ?_)
    refine lv_iload_n hx hb dX3_isOfThese_12 rfl (lv_at hl 1 rfl) ?_
    refine lv_icmp_ne (tgt := 20) hx hb dX3_isOfThese_13 (by decide) (fun c13 => ?_) (fun c13 => ?_)
    · have hok := k_neg c13 hok
      exact J20  H locs ls hP hD hS (lv_sub hl [] rfl) hok
    · have hok := k_pos c13 hok
      refine lv_iconst (v := 1) hx hb dX3_isOfThese_16 (by decide) ?_
      refine lv_goto (tgt := 21) hx hb dX3_isOfThese_17 (by decide) ?_
      exact J21 (1 : Int32) H locs ls hP hD hS (lv_sub hl [] rfl) hok
def wsX6_seat : List Cond := .code yX6_seat cX6_seat 3 none :: W0
abbrev wX6_seat (cy : Nat → ClassId) (aW : Nat) (qW : Nat → Nat) (aH : Nat) (fvW_4 : Nat) (vW : Nat → Int32) (vW_who : Nat → Int32) : va_W := [(aW, oX6 vW qW fvW_4), (qW 1, rI cy 36 vW_who)]
set_option maxHeartbeats 4000000 in
set_option maxRecDepth 100000 in
theorem kX6_seat (l : Launch) (D : va_G) (cy : Nat → ClassId) (sz : Nat) (aW : Nat) (qW : Nat → Nat) (aH : Nat) (vW : Nat → Int32) (vW_who : Nat → Int32) (x1 : Int32) (x2 : Int32) (z_vW_who : Nat → Int32) (hok : fX6_seat vW vW_who x1 x2 = some z_vW_who) (A : Nat → Prop) (hAe : va_A (wX6_seat cy aW qW aH aH vW vW_who) sz = A) : Met l yX6_seat wsX6_seat ({ frames := 0, cells := 0, slots := 0, locals := 0 } : Room) (kPre D cy [.ref aW, .int x1, .int x2] (wX6_seat cy aW qW aH aH vW vW_who) sz) (kQv D cy A (wX6_seat cy aW qW aH aH vW z_vW_who)) 0 0 A := by
  refine Met.ofW (cc := cX6_seat) (maxL := 3) (ret := none) (by decide) rfl ?_
  intro p e s m args below meth c s₁ B hml hv
  obtain ⟨rfl, hsz, hP, hK, hD0, hN⟩ := hv
  have hx := B.exec
  have hb := B.bytes
  have hr := B.returns
  have ht0 : ∀ w ∈ W0, w.before _ s = true := fun w h => atoms_spec (ws := wsX6_seat) B.pre w (List.mem_cons_of_mem _ h)
  have hown : s.vm.findClass RX6 = some m.cls := findClass_of_methodNamed B.named
  have hlocks := B.notSynchronized
  subst hsz
  have hD : va_D A (wX6_seat cy aW qW aH aH vW vW_who) := by rw [← hAe]; exact hD0.self
  have hA : ∀ q : Nat, s.heap.size ≤ q → A q := fun q h => by rw [← hAe]; exact Or.inr h
  have hS : va_S A s.heap s.heap [] := va_S.rf
  have hl := lv_entry ([.ref aW, .int x1, .int x2]) (n := 3) (Nat.le_of_ble_eq_true rfl)
  rw [lg_entry_eq]
  generalize (lg_sl ([.ref aW, .int x1, .int x2]) ++ List.replicate (3 - (lg_sl ([.ref aW, .int x1, .int x2])).length) Slot.unset).toArray = ls at hl ⊢
  have hl : lv_has ls 3 [(0, .ref aW), (1, .int x1), (2, .int x2)] := hl
  generalize hQe : MQ below (kQv D cy A (wX6_seat cy aW qW aH aH vW z_vW_who)) ([.ref aW, .int x1, .int x2] : List Value).toArray s 0 0 A = Q
  have J17 : ∀ (vW_who_17 : Nat → Int32), ∀ (H : Heap) (locs : List Loc) (ls : Array Slot), va_P D vwCl (wX6_seat cy aW qW aH aH vW vW_who_17) H → va_D A (wX6_seat cy aW qW aH aH vW vW_who_17) → va_S A s.heap H locs → lv_has ls 3 [] → fX6_seat_J17 vW_who_17 = some z_vW_who → W p l e ({ frames := 0, cells := 0, slots := 0, locals := 0 } : Room) s m ([.ref aW, .int x1, .int x2] : List Value).toArray below meth c H locs 0 0 Q (F0 m 17 ls []) := by
    intro vW_who_17 H locs ls hP hD hS hl hok
    unfold fX6_seat_J17 at hok
    cases hok
    subst hQe; exact W.vret hx hb hr (fun t ht hW => ⟨⟨(), rfl, trivial, by rw [ht]; exact hP, va_K.moved hW.alike hK, hD⟩, hS.F ht⟩) hS.2.2 dX6_seat_17
  unfold fX6_seat at hok
  obtain ⟨H, hH⟩ : ∃ H, H = s.heap := ⟨_, rfl⟩
  obtain ⟨locs, hlc⟩ : ∃ x : List Loc, x = [] := ⟨_, rfl⟩
  have hP : va_P D vwCl (wX6_seat cy aW qW aH aH vW vW_who) H := by rw [hH]; exact hP
  have hS : va_S A s.heap H locs := by rw [hH, hlc]; exact hS
  rw [show W p l e _ s m _ below meth c s.heap [] = W p l e _ s m _ below meth c H locs from by rw [hH, hlc]]
  refine lv_iload_n hx hb dX6_seat_0 rfl (lv_at hl 2 rfl) ?_
  refine lv_if_lt (tgt := 17) hx hb dX6_seat_1 (by decide) (fun c1 => ?_) (fun c1 => ?_)
  · have hok := k_pos c1 hok
    exact J17 vW_who H locs ls hP hD hS (lv_sub hl [] rfl) hok
  · have hok := k_neg c1 hok
    refine lv_iload_n hx hb dX6_seat_4 rfl (lv_at hl 2 rfl) ?_
    refine lv_bipush (v := 36) hx hb dX6_seat_5 (by decide) ?_
    refine lv_icmp_ge (tgt := 17) hx hb dX6_seat_7 (by decide) (fun c7 => ?_) (fun c7 => ?_)
    · have hok := k_pos c7 hok
      exact J17 vW_who H locs ls hP hD hS (lv_sub hl [] rfl) hok
    · have hok := k_neg c7 hok
      refine lv_aload_n hx hb dX6_seat_10 rfl (lv_at hl 0 rfl) ?_
      refine va_get (D := D) (ci := 5) (v := .ref (qW 1)) (C := RX6) (T := TX6) (N := 13) hx hb ht0 niX6 hown hK hP 0 rfl rfl 1 (by decide) (ht0 _ wd92) (fun _ h9 => h9) rfl dX6_seat_11 ?_
      refine lv_iload_n hx hb dX6_seat_14 rfl (lv_at hl 2 rfl) ?_
      refine lv_iload_n hx hb dX6_seat_15 rfl (lv_at hl 1 rfl) ?_
      obtain ⟨g16, hok⟩ := gd_some hok
      refine va_iast hx hb hK hP hD hS 1 0 rfl rfl (okI_in g16) dX6_seat_16 (fun H locs hP hD hS => ?_)
      have hP : va_P D vwCl (wX6_seat cy aW qW aH aH vW (upd vW_who x2.toNatClampNeg x1)) H := hP
      have hD : va_D A (wX6_seat cy aW qW aH aH vW (upd vW_who x2.toNatClampNeg x1)) := hD
      exact J17 (upd vW_who x2.toNatClampNeg x1) H locs ls hP hD hS (lv_sub hl [] rfl) hok
def wsX4_hasRing : List Cond := .code yX4_hasRing cX4_hasRing 2 (some .boolean) :: W0
abbrev wX4_hasRing (cy : Nat → ClassId) (aH : Nat) (qH : Nat → Nat) (vH : Nat → Int32) : va_W := [(aH, oX4 vH qH)]
set_option maxHeartbeats 4000000 in
set_option maxRecDepth 100000 in
theorem kX4_hasRing (l : Launch) (D : va_G) (cy : Nat → ClassId) (sz : Nat) (aH : Nat) (qH : Nat → Nat) (vH : Nat → Int32) (x1 : Int32) (zr : Int32) (hok : fX4_hasRing vH x1 = some zr) (A : Nat → Prop) (hAe : va_A (wX4_hasRing cy aH qH vH) sz = A) : Met l yX4_hasRing wsX4_hasRing ({ frames := 0, cells := 0, slots := 0, locals := 0 } : Room) (kPre D cy [.ref aH, .int x1] (wX4_hasRing cy aH qH vH) sz) (kQi D cy zr A (wX4_hasRing cy aH qH vH)) 0 0 A := by
  refine Met.ofW (cc := cX4_hasRing) (maxL := 2) (ret := (some .boolean)) (by decide) rfl ?_
  intro p e s m args below meth c s₁ B hml hv
  obtain ⟨rfl, hsz, hP, hK, hD0, hN⟩ := hv
  have hx := B.exec
  have hb := B.bytes
  have hr := B.returns
  have ht0 : ∀ w ∈ W0, w.before _ s = true := fun w h => atoms_spec (ws := wsX4_hasRing) B.pre w (List.mem_cons_of_mem _ h)
  have hown : s.vm.findClass RX4 = some m.cls := findClass_of_methodNamed B.named
  have hlocks := B.notSynchronized
  subst hsz
  have hD : va_D A (wX4_hasRing cy aH qH vH) := by rw [← hAe]; exact hD0.self
  have hA : ∀ q : Nat, s.heap.size ≤ q → A q := fun q h => by rw [← hAe]; exact Or.inr h
  have hS : va_S A s.heap s.heap [] := va_S.rf
  have hl := lv_entry ([.ref aH, .int x1]) (n := 2) (Nat.le_of_ble_eq_true rfl)
  rw [lg_entry_eq]
  generalize (lg_sl ([.ref aH, .int x1]) ++ List.replicate (2 - (lg_sl ([.ref aH, .int x1])).length) Slot.unset).toArray = ls at hl ⊢
  have hl : lv_has ls 2 [(0, .ref aH), (1, .int x1)] := hl
  generalize hQe : MQ below (kQi D cy zr A (wX4_hasRing cy aH qH vH)) ([.ref aH, .int x1] : List Value).toArray s 0 0 A = Q
  have J22 : ∀ (t0_22 : Int32), ∀ (H : Heap) (locs : List Loc) (ls : Array Slot), va_P D vwCl (wX4_hasRing cy aH qH vH) H → va_D A (wX4_hasRing cy aH qH vH) → va_S A s.heap H locs → lv_has ls 2 [] → fX4_hasRing_J22 t0_22 = some zr → W p l e ({ frames := 0, cells := 0, slots := 0, locals := 0 } : Room) s m ([.ref aH, .int x1] : List Value).toArray below meth c H locs 0 0 Q (F0 m 22 ls [.int t0_22]) := by
    intro t0_22 H locs ls hP hD hS hl hok
    unfold fX4_hasRing_J22 at hok
    obtain ⟨g22, hok⟩ := gd_some hok
    cases hok
    subst hQe; exact W.zret hx hb hr (isB_nar g22) (fun t ht hW => ⟨⟨_, (), rfl, rfl, by rw [ht]; exact hP, va_K.moved hW.alike hK, hD⟩, hS.F ht⟩) hS.2.2 dX4_hasRing_22
  have J21 : ∀ (H : Heap) (locs : List Loc) (ls : Array Slot), va_P D vwCl (wX4_hasRing cy aH qH vH) H → va_D A (wX4_hasRing cy aH qH vH) → va_S A s.heap H locs → lv_has ls 2 [] → fX4_hasRing_J21 = some zr → W p l e ({ frames := 0, cells := 0, slots := 0, locals := 0 } : Room) s m ([.ref aH, .int x1] : List Value).toArray below meth c H locs 0 0 Q (F0 m 21 ls []) := by
    intro  H locs ls hP hD hS hl hok
    unfold fX4_hasRing_J21 at hok
    refine lv_iconst (v := 0) hx hb dX4_hasRing_21 (by decide) ?_
    exact J22 (0 : Int32) H locs ls hP hD hS (lv_sub hl [] rfl) hok
  unfold fX4_hasRing at hok
  obtain ⟨H, hH⟩ : ∃ H, H = s.heap := ⟨_, rfl⟩
  obtain ⟨locs, hlc⟩ : ∃ x : List Loc, x = [] := ⟨_, rfl⟩
  have hP : va_P D vwCl (wX4_hasRing cy aH qH vH) H := by rw [hH]; exact hP
  have hS : va_S A s.heap H locs := by rw [hH, hlc]; exact hS
  rw [show W p l e _ s m _ below meth c s.heap [] = W p l e _ s m _ below meth c H locs from by rw [hH, hlc]]
  refine lv_iload_n hx hb dX4_hasRing_0 rfl (lv_at hl 1 rfl) ?_
  refine lv_if_lt (tgt := 21) hx hb dX4_hasRing_1 (by decide) (fun c1 => ?_) (fun c1 => ?_)
  · have hok := k_pos c1 hok
    exact J21  H locs ls hP hD hS (lv_sub hl [] rfl) hok
  · have hok := k_neg c1 hok
    refine lv_iload_n hx hb dX4_hasRing_4 rfl (lv_at hl 1 rfl) ?_
    refine lv_aload_n hx hb dX4_hasRing_5 rfl (lv_at hl 0 rfl) ?_
    refine va_get (D := D) (ci := 3) (v := .int (vH 2)) (C := RX4) (T := TX4) (N := 20) hx hb ht0 niX4 hown hK hP 0 rfl rfl 2 (by decide) (ht0 _ wd93) (fun _ h9 => h9) rfl dX4_hasRing_6 ?_
    refine lv_icmp_ge (tgt := 21) hx hb dX4_hasRing_9 (by decide) (fun c9 => ?_) (fun c9 => ?_)
    · have hok := k_pos c9 hok
      exact J21  H locs ls hP hD hS (lv_sub hl [] rfl) hok
    · have hok := k_neg c9 hok
      refine lv_iload_n hx hb dX4_hasRing_12 rfl (lv_at hl 1 rfl) ?_
      refine lv_iconst (v := 4) hx hb dX4_hasRing_13 (by decide) ?_
      refine lv_icmp_ge (tgt := 21) hx hb dX4_hasRing_14 (by decide) (fun c14 => ?_) (fun c14 => ?_)
      · have hok := k_pos c14 hok
        exact J21  H locs ls hP hD hS (lv_sub hl [] rfl) hok
      · have hok := k_neg c14 hok
        refine lv_iconst (v := 1) hx hb dX4_hasRing_17 (by decide) ?_
        refine lv_goto (tgt := 22) hx hb dX4_hasRing_18 (by decide) ?_
        exact J22 (1 : Int32) H locs ls hP hD hS (lv_sub hl [] rfl) hok
def wsX4_sortOf : List Cond := .code yX4_sortOf cX4_sortOf 2 (some .int) :: W0
abbrev wX4_sortOf (cy : Nat → ClassId) (aH : Nat) (qH : Nat → Nat) (vH : Nat → Int32) (vH_sorts : Nat → Int32) : va_W := [(aH, oX4 vH qH), (qH 8, rI cy 4 vH_sorts)]
set_option maxHeartbeats 4000000 in
set_option maxRecDepth 100000 in
theorem kX4_sortOf (l : Launch) (D : va_G) (cy : Nat → ClassId) (sz : Nat) (aH : Nat) (qH : Nat → Nat) (vH : Nat → Int32) (vH_sorts : Nat → Int32) (x1 : Int32) (zr : Int32) (hok : fX4_sortOf vH vH_sorts x1 = some zr) (A : Nat → Prop) (hAe : va_A (wX4_sortOf cy aH qH vH vH_sorts) sz = A) : Met l yX4_sortOf wsX4_sortOf ({ frames := 1, cells := 0, slots := 0, locals := 21 } : Room) (kPre D cy [.ref aH, .int x1] (wX4_sortOf cy aH qH vH vH_sorts) sz) (kQi D cy zr A (wX4_sortOf cy aH qH vH vH_sorts)) 0 0 A := by
  refine Met.ofW (cc := cX4_sortOf) (maxL := 2) (ret := (some .int)) (by decide) rfl ?_
  intro p e s m args below meth c s₁ B hml hv
  obtain ⟨rfl, hsz, hP, hK, hD0, hN⟩ := hv
  have hx := B.exec
  have hb := B.bytes
  have hr := B.returns
  have ht0 : ∀ w ∈ W0, w.before _ s = true := fun w h => atoms_spec (ws := wsX4_sortOf) B.pre w (List.mem_cons_of_mem _ h)
  have hown : s.vm.findClass RX4 = some m.cls := findClass_of_methodNamed B.named
  have hlocks := B.notSynchronized
  subst hsz
  have hD : va_D A (wX4_sortOf cy aH qH vH vH_sorts) := by rw [← hAe]; exact hD0.self
  have hA : ∀ q : Nat, s.heap.size ≤ q → A q := fun q h => by rw [← hAe]; exact Or.inr h
  have hS : va_S A s.heap s.heap [] := va_S.rf
  have hl := lv_entry ([.ref aH, .int x1]) (n := 2) (Nat.le_of_ble_eq_true rfl)
  rw [lg_entry_eq]
  generalize (lg_sl ([.ref aH, .int x1]) ++ List.replicate (2 - (lg_sl ([.ref aH, .int x1])).length) Slot.unset).toArray = ls at hl ⊢
  have hl : lv_has ls 2 [(0, .ref aH), (1, .int x1)] := hl
  generalize hQe : MQ below (kQi D cy zr A (wX4_sortOf cy aH qH vH vH_sorts)) ([.ref aH, .int x1] : List Value).toArray s 0 0 A = Q
  have J18 : ∀ (t0_18 : Int32), ∀ (H : Heap) (locs : List Loc) (ls : Array Slot), va_P D vwCl (wX4_sortOf cy aH qH vH vH_sorts) H → va_D A (wX4_sortOf cy aH qH vH vH_sorts) → va_S A s.heap H locs → lv_has ls 2 [] → fX4_sortOf_J18 t0_18 = some zr → W p l e ({ frames := 1, cells := 0, slots := 0, locals := 21 } : Room) s m ([.ref aH, .int x1] : List Value).toArray below meth c H locs 0 0 Q (F0 m 18 ls [.int t0_18]) := by
    intro t0_18 H locs ls hP hD hS hl hok
    unfold fX4_sortOf_J18 at hok
    cases hok
    subst hQe; exact W.iret hx hb hr (fun t ht hW => ⟨⟨_, (), rfl, rfl, by rw [ht]; exact hP, va_K.moved hW.alike hK, hD⟩, hS.F ht⟩) hS.2.2 dX4_sortOf_18
  unfold fX4_sortOf at hok
  obtain ⟨H, hH⟩ : ∃ H, H = s.heap := ⟨_, rfl⟩
  obtain ⟨locs, hlc⟩ : ∃ x : List Loc, x = [] := ⟨_, rfl⟩
  have hP : va_P D vwCl (wX4_sortOf cy aH qH vH vH_sorts) H := by rw [hH]; exact hP
  have hS : va_S A s.heap H locs := by rw [hH, hlc]; exact hS
  rw [show W p l e _ s m _ below meth c s.heap [] = W p l e _ s m _ below meth c H locs from by rw [hH, hlc]]
  refine lv_aload_n hx hb dX4_sortOf_0 rfl (lv_at hl 0 rfl) ?_
  refine lv_iload_n hx hb dX4_sortOf_1 rfl (lv_at hl 1 rfl) ?_
  obtain ⟨r2, hc2, hok⟩ := k_bind hok
  refine kCi (wc := (wX4_hasRing cy aH qH vH)) (wc2 := (wX4_hasRing cy aH qH vH)) (wr := [(qH 8, rI cy 4 vH_sorts)]) (ws2 := (wX4_sortOf cy aH qH vH vH_sorts)) (kRunV (As := [.int x1]) (rest := []) ⟨hx, hb, hml, hown, ht0⟩ (kX4_hasRing l D cy _ aH qH vH x1 r2 hc2 _ rfl) (cwV 1 ht0 (gV wd94 wd95 wd96 wd9 wd97) rfl rfl rfl (by decide +kernel) ⟨Nat.le_of_ble_eq_true rfl, Nat.le_of_ble_eq_true rfl⟩) hK hN hP hD [0] rfl (by decide) 0 3 rfl rfl rfl hl.1 rfl (Nat.le_of_ble_eq_true rfl) dX4_sortOf_2 ⟨Nat.zero_le _, Nat.zero_le _⟩) hP hD hS hA [0] [1] rfl rfl (by decide) (by decide) [1, 0] (by decide) rfl rfl (fun H locs hP hD hS => ?_)
  refine lv_if_eq (tgt := 17) hx hb dX4_sortOf_5 (by decide) (fun c5 => ?_) (fun c5 => ?_)
  · have hok := k_pos c5 hok
    refine lv_iconst (v := 0) hx hb dX4_sortOf_17 (by decide) ?_
    exact J18 (0 : Int32) H locs ls hP hD hS (lv_sub hl [] rfl) hok
  · have hok := k_neg c5 hok
    refine lv_aload_n hx hb dX4_sortOf_8 rfl (lv_at hl 0 rfl) ?_
    refine va_get (D := D) (ci := 3) (v := .ref (qH 8)) (C := RX4) (T := TX4) (N := 20) hx hb ht0 niX4 hown hK hP 0 rfl rfl 8 (by decide) (ht0 _ wd98) (fun _ h9 => h9) rfl dX4_sortOf_9 ?_
    refine lv_iload_n hx hb dX4_sortOf_12 rfl (lv_at hl 1 rfl) ?_
    obtain ⟨g13, hok⟩ := gd_some hok
    refine va_iald hx hb hK hP 1 0 rfl rfl (okI_in g13) dX4_sortOf_13 ?_
    refine lv_goto (tgt := 18) hx hb dX4_sortOf_14 (by decide) ?_
    exact J18 (vH_sorts x1.toNatClampNeg) H locs ls hP hD hS (lv_sub hl [] rfl) hok
def wsX6_start : List Cond := .code yX6_start cX6_start 7 none :: W0
abbrev wX6_start (cy : Nat → ClassId) (aW : Nat) (aH : Nat) (aD : Nat) (qW : Nat → Nat) (aH0 : Nat) (qD : Nat → Nat) (qH : Nat → Nat) (fvW_4 : Nat) (vW : Nat → Int32) (vD : Nat → Int32) (vD_now : Nat → Int32) (vW_who : Nat → Int32) (vH : Nat → Int32) (vH_kinds : Nat → Int32) (vW_cells : Nat → Int32) (vH_sorts : Nat → Int32) : va_W := [(aW, oX6 vW qW fvW_4), (aD, oX1 vD qD), (qD 0, rI cy 9 vD_now), (qW 1, rI cy 36 vW_who), (aH, oX4 vH qH), (qH 14, rI cy 7 vH_kinds), (qW 0, rI cy 7 vW_cells), (qH 8, rI cy 4 vH_sorts)]
set_option maxHeartbeats 4000000 in
set_option maxRecDepth 100000 in
theorem kX6_start (l : Launch) (D : va_G) (cy : Nat → ClassId) (sz : Nat) (aW : Nat) (aH : Nat) (aD : Nat) (qW : Nat → Nat) (aH0 : Nat) (qD : Nat → Nat) (qH : Nat → Nat) (vW : Nat → Int32) (vD : Nat → Int32) (vD_now : Nat → Int32) (vW_who : Nat → Int32) (vH : Nat → Int32) (vH_kinds : Nat → Int32) (vW_cells : Nat → Int32) (vH_sorts : Nat → Int32) (x3 : Int32) (z_vW : Nat → Int32) (z_vW_who : Nat → Int32) (z_vW_cells : Nat → Int32) (hok : fX6_start vW vD vD_now vW_who vH vH_kinds vW_cells vH_sorts x3 = some (z_vW, z_vW_who, z_vW_cells)) (A : Nat → Prop) (hAe : va_A (wX6_start cy aW aH aD qW aH0 qD qH aH0 vW vD vD_now vW_who vH vH_kinds vW_cells vH_sorts) sz = A) : Met l yX6_start wsX6_start ({ frames := 2, cells := 0, slots := 0, locals := 42 } : Room) (kPre D cy [.ref aW, .ref aH, .ref aD, .int x3] (wX6_start cy aW aH aD qW aH0 qD qH aH0 vW vD vD_now vW_who vH vH_kinds vW_cells vH_sorts) sz) (kQv D cy A (wX6_start cy aW aH aD qW aH0 qD qH aH z_vW vD vD_now z_vW_who vH vH_kinds z_vW_cells vH_sorts)) 0 0 A := by
  refine Met.ofW (cc := cX6_start) (maxL := 7) (ret := none) (by decide) rfl ?_
  intro p e s m args below meth c s₁ B hml hv
  obtain ⟨rfl, hsz, hP, hK, hD0, hN⟩ := hv
  have hx := B.exec
  have hb := B.bytes
  have hr := B.returns
  have ht0 : ∀ w ∈ W0, w.before _ s = true := fun w h => atoms_spec (ws := wsX6_start) B.pre w (List.mem_cons_of_mem _ h)
  have hown : s.vm.findClass RX6 = some m.cls := findClass_of_methodNamed B.named
  have hlocks := B.notSynchronized
  subst hsz
  have hD : va_D A (wX6_start cy aW aH aD qW aH0 qD qH aH0 vW vD vD_now vW_who vH vH_kinds vW_cells vH_sorts) := by rw [← hAe]; exact hD0.self
  have hA : ∀ q : Nat, s.heap.size ≤ q → A q := fun q h => by rw [← hAe]; exact Or.inr h
  have hS : va_S A s.heap s.heap [] := va_S.rf
  have hl := lv_entry ([.ref aW, .ref aH, .ref aD, .int x3]) (n := 7) (Nat.le_of_ble_eq_true rfl)
  rw [lg_entry_eq]
  generalize (lg_sl ([.ref aW, .ref aH, .ref aD, .int x3]) ++ List.replicate (7 - (lg_sl ([.ref aW, .ref aH, .ref aD, .int x3])).length) Slot.unset).toArray = ls at hl ⊢
  have hl : lv_has ls 7 [(0, .ref aW), (1, .ref aH), (2, .ref aD), (3, .int x3)] := hl
  generalize hQe : MQ below (kQv D cy A (wX6_start cy aW aH aD qW aH0 qD qH aH z_vW vD vD_now z_vW_who vH vH_kinds z_vW_cells vH_sorts)) ([.ref aW, .ref aH, .ref aD, .int x3] : List Value).toArray s 0 0 A = Q
  have J189 : ∀ (vW_cells_189 : Nat → Int32) (vW_who_189 : Nat → Int32) (vW_189 : Nat → Int32), ∀ (H : Heap) (locs : List Loc) (ls : Array Slot), va_P D vwCl (wX6_start cy aW aH aD qW aH0 qD qH aH vW_189 vD vD_now vW_who_189 vH vH_kinds vW_cells_189 vH_sorts) H → va_D A (wX6_start cy aW aH aD qW aH0 qD qH aH vW_189 vD vD_now vW_who_189 vH vH_kinds vW_cells_189 vH_sorts) → va_S A s.heap H locs → lv_has ls 7 [] → fX6_start_J189 vW_cells_189 vW_who_189 vW_189 = some (z_vW, z_vW_who, z_vW_cells) → W p l e ({ frames := 2, cells := 0, slots := 0, locals := 42 } : Room) s m ([.ref aW, .ref aH, .ref aD, .int x3] : List Value).toArray below meth c H locs 0 0 Q (F0 m 189 ls []) := by
    intro vW_cells_189 vW_who_189 vW_189 H locs ls hP hD hS hl hok
    unfold fX6_start_J189 at hok
    cases hok
    subst hQe; exact W.vret hx hb hr (fun t ht hW => ⟨⟨(), rfl, trivial, by rw [ht]; exact hP, va_K.moved hW.alike hK, hD⟩, hS.F ht⟩) hS.2.2 dX6_start_189
  have L49 : ∀ (fuel : Nat) (y4_49 : Int32) (vW_cells_49 : Nat → Int32) (vW_who_49 : Nat → Int32) (vW_49 : Nat → Int32), ∀ (H : Heap) (locs : List Loc) (ls : Array Slot), va_P D vwCl (wX6_start cy aW aH aD qW aH0 qD qH aH vW_49 vD vD_now vW_who_49 vH vH_kinds vW_cells_49 vH_sorts) H → va_D A (wX6_start cy aW aH aD qW aH0 qD qH aH vW_49 vD vD_now vW_who_49 vH vH_kinds vW_cells_49 vH_sorts) → va_S A s.heap H locs → lv_has ls 7 [(0, .ref aW), (2, .ref aD), (4, .int y4_49)] → lp (fX6_start_B49 vD vD_now vH vH_kinds vH_sorts) fuel (y4_49, vW_cells_49, vW_who_49, vW_49) = some (z_vW, z_vW_who, z_vW_cells) → W p l e ({ frames := 2, cells := 0, slots := 0, locals := 42 } : Room) s m ([.ref aW, .ref aH, .ref aD, .int x3] : List Value).toArray below meth c H locs 0 0 Q (F0 m 49 ls []) := by
    intro fuel
    induction fuel with
    | zero => intro y4_49 vW_cells_49 vW_who_49 vW_49 H locs ls hP hD hS hl hok; exact (lp_0 hok).elim
    | succ fuel ih49 =>
      intro y4_49 vW_cells_49 vW_who_49 vW_49 H locs ls hP hD hS hl hok
      obtain ⟨y49, hok, hL49, hR49⟩ := lp_step hok
      have J179 : ∀ (t0_179 : Int32) (t1_179 : Int32) (vW_cells_179 : Nat → Int32) (vW_who_179 : Nat → Int32) (vW_179 : Nat → Int32), ∀ (H : Heap) (locs : List Loc) (ls : Array Slot), va_P D vwCl (wX6_start cy aW aH aD qW aH0 qD qH aH vW_179 vD vD_now vW_who_179 vH vH_kinds vW_cells_179 vH_sorts) H → va_D A (wX6_start cy aW aH aD qW aH0 qD qH aH vW_179 vD vD_now vW_who_179 vH vH_kinds vW_cells_179 vH_sorts) → va_S A s.heap H locs → lv_has ls 7 [(0, .ref aW), (2, .ref aD), (4, .int y4_49)] → fX6_start_J179 y4_49 t0_179 t1_179 vW_cells_179 vW_who_179 vW_179 = some y49 → W p l e ({ frames := 2, cells := 0, slots := 0, locals := 42 } : Room) s m ([.ref aW, .ref aH, .ref aD, .int x3] : List Value).toArray below meth c H locs 0 0 Q (F0 m 179 ls [.int t0_179, .int t1_179, .ref aW]) := by
        intro t0_179 t1_179 vW_cells_179 vW_who_179 vW_179 H locs ls hP hD hS hl hok
        unfold fX6_start_J179 at hok
        refine lv_ior hx hb dX6_start_179 ?_
        refine va_put (D := D) (ci := 5) (v := .int (t1_179 ||| t0_179)) (ty := .int) (C := RX6) (T := TX6) (N := 13) hx hb ht0 niX6 tyX6 tyX6_ok nmX6 hown hK hP hD hS 0 rfl rfl 8 (by decide) (ht0 _ wd99) (fun _ h9 => h9) rfl (by decide +kernel) rfl rfl (Nat.le_of_ble_eq_true rfl) dX6_start_180 (fun H locs hP hD hS => ?_)
        have hP : va_P D vwCl (wX6_start cy aW aH aD qW aH0 qD qH aH (upd vW_179 8 (t1_179 ||| t0_179)) vD vD_now vW_who_179 vH vH_kinds vW_cells_179 vH_sorts) H := hP
        have hD : va_D A (wX6_start cy aW aH aD qW aH0 qD qH aH (upd vW_179 8 (t1_179 ||| t0_179)) vD vD_now vW_who_179 vH vH_kinds vW_cells_179 vH_sorts) := hD
        refine lv_iinc (v := (y4_49 + 1)) (lv' := [(4, .int (y4_49 + 1)), (0, .ref aW), (2, .ref aD)]) hx hb dX6_start_183 hl (k := 2) rfl (by first | rfl | decide) (by decide) rfl (fun ls hl => ?_)
        refine lv_goto (tgt := 49) hx hb dX6_start_186 (by decide) ?_
        exact ih49 (y4_49 + 1) vW_cells_179 vW_who_179 (upd vW_179 8 (t1_179 ||| t0_179)) H locs ls hP hD hS (lv_sub hl [1, 2, 0] rfl) (hR49 _ (Option.some.inj hok).symm)
      have J146 : ∀ (y5_146 : Int32) (t0_146 : Int32) (vW_cells_146 : Nat → Int32) (vW_who_146 : Nat → Int32) (vW_146 : Nat → Int32), ∀ (H : Heap) (locs : List Loc) (ls : Array Slot), va_P D vwCl (wX6_start cy aW aH aD qW aH0 qD qH aH vW_146 vD vD_now vW_who_146 vH vH_kinds vW_cells_146 vH_sorts) H → va_D A (wX6_start cy aW aH aD qW aH0 qD qH aH vW_146 vD vD_now vW_who_146 vH vH_kinds vW_cells_146 vH_sorts) → va_S A s.heap H locs → lv_has ls 7 [(0, .ref aW), (2, .ref aD), (4, .int y4_49), (5, .int y5_146)] → fX6_start_J146 vH vH_sorts y4_49 vW_49 y5_146 t0_146 vW_cells_146 vW_who_146 vW_146 = some y49 → W p l e ({ frames := 2, cells := 0, slots := 0, locals := 42 } : Room) s m ([.ref aW, .ref aH, .ref aD, .int x3] : List Value).toArray below meth c H locs 0 0 Q (F0 m 146 ls [.int t0_146, .int (vW_49 7), .ref aW]) := by
        intro y5_146 t0_146 vW_cells_146 vW_who_146 vW_146 H locs ls hP hD hS hl hok
        unfold fX6_start_J146 at hok
        refine lv_ior hx hb dX6_start_146 ?_
        refine va_put (D := D) (ci := 5) (v := .int ((vW_49 7) ||| t0_146)) (ty := .int) (C := RX6) (T := TX6) (N := 13) hx hb ht0 niX6 tyX6 tyX6_ok nmX6 hown hK hP hD hS 0 rfl rfl 7 (by decide) (ht0 _ wd100) (fun _ h9 => h9) rfl (by decide +kernel) rfl rfl (Nat.le_of_ble_eq_true rfl) dX6_start_147 (fun H locs hP hD hS => ?_)
        have hP : va_P D vwCl (wX6_start cy aW aH aD qW aH0 qD qH aH (upd vW_146 7 ((vW_49 7) ||| t0_146)) vD vD_now vW_who_146 vH vH_kinds vW_cells_146 vH_sorts) H := hP
        have hD : va_D A (wX6_start cy aW aH aD qW aH0 qD qH aH (upd vW_146 7 ((vW_49 7) ||| t0_146)) vD vD_now vW_who_146 vH vH_kinds vW_cells_146 vH_sorts) := hD
        refine lv_aload_n hx hb dX6_start_150 rfl (lv_at hl 0 rfl) ?_
        refine lv_dup hx hb dX6_start_151 rfl ?_
        refine va_get (D := D) (ci := 5) (v := .int (vW_146 8)) (C := RX6) (T := TX6) (N := 13) hx hb ht0 niX6 hown hK hP 0 rfl rfl 8 (by decide) (ht0 _ wd99) (fun _ h9 => h9) rfl dX6_start_152 ?_
        refine lv_aload_n hx hb dX6_start_155 rfl (lv_at hl 0 rfl) ?_
        refine va_get (D := D) (ci := 5) (v := .ref aH) (C := RX6) (T := TX6) (N := 13) hx hb ht0 niX6 hown hK hP 0 rfl rfl 4 (by decide) (ht0 _ wd101) (fun _ h9 => h9) rfl dX6_start_156 ?_
        refine lv_iload hx hb dX6_start_159 (lv_at hl 3 rfl) ?_
        obtain ⟨r161, hc161, hok⟩ := k_bind hok
        refine kCi (wc := (wX8_ringOfCell cy )) (wc2 := (wX8_ringOfCell cy )) (wr := [(aW, oX6 (upd vW_146 7 ((vW_49 7) ||| t0_146)) qW aH), (aD, oX1 vD qD), (qD 0, rI cy 9 vD_now), (qW 1, rI cy 36 vW_who_146), (aH, oX4 vH qH), (qH 14, rI cy 7 vH_kinds), (qW 0, rI cy 7 vW_cells_146), (qH 8, rI cy 4 vH_sorts)]) (ws2 := (wX6_start cy aW aH aD qW aH0 qD qH aH (upd vW_146 7 ((vW_49 7) ||| t0_146)) vD vD_now vW_who_146 vH vH_kinds vW_cells_146 vH_sorts)) (kRunSN (As := [.int y5_146]) (rest := [.ref aH, .int (vW_146 8), .ref aW]) ⟨hx, hb, hml, hown, ht0⟩ (kX8_ringOfCell l D cy _ y5_146 r161 hc161 _ rfl) ⟨va_cnB 1 ht0 (gN wd56) rfl rfl rfl (hN _ (List.mem_of_getElem? (i := 6) rfl)) (ht0 _ wd57) (by decide +kernel) ⟨Nat.le_of_ble_eq_true rfl, Nat.le_of_ble_eq_true rfl⟩, ht0 _ wd58, trivial⟩ hK hN hP hD [] rfl (by decide) rfl hl.1 rfl (Nat.le_of_ble_eq_true rfl) dX6_start_161 ⟨Nat.zero_le _, Nat.zero_le _⟩) hP hD hS hA [] [0, 1, 2, 3, 4, 5, 6, 7] rfl rfl (by decide) (by decide) [0, 1, 2, 3, 4, 5, 6, 7] (by decide) rfl rfl (fun H locs hP hD hS => ?_)
        obtain ⟨r164, hc164, hok⟩ := k_bind hok
        refine kCi (wc := (wX4_sortOf cy aH qH vH vH_sorts)) (wc2 := (wX4_sortOf cy aH qH vH vH_sorts)) (wr := [(aW, oX6 (upd vW_146 7 ((vW_49 7) ||| t0_146)) qW aH), (aD, oX1 vD qD), (qD 0, rI cy 9 vD_now), (qW 1, rI cy 36 vW_who_146), (qH 14, rI cy 7 vH_kinds), (qW 0, rI cy 7 vW_cells_146)]) (ws2 := (wX6_start cy aW aH aD qW aH0 qD qH aH (upd vW_146 7 ((vW_49 7) ||| t0_146)) vD vD_now vW_who_146 vH vH_kinds vW_cells_146 vH_sorts)) (kRunV (As := [.int r161]) (rest := [.int (vW_146 8), .ref aW]) ⟨hx, hb, hml, hown, ht0⟩ (kX4_sortOf l D cy _ aH qH vH vH_sorts r161 r164 hc164 _ rfl) (cwV 1 ht0 (gV wd102 wd103 wd104 wd9 wd105) rfl rfl rfl (by decide +kernel) ⟨Nat.le_of_ble_eq_true rfl, Nat.le_of_ble_eq_true rfl⟩) hK hN hP hD [4, 7] rfl (by decide) 4 3 rfl rfl rfl hl.1 rfl (Nat.le_of_ble_eq_true rfl) dX6_start_164 ⟨Nat.zero_le _, Nat.zero_le _⟩) hP hD hS hA [4, 7] [0, 1, 2, 3, 5, 6] rfl rfl (by decide) (by decide) [0, 1, 2, 3, 6, 4, 5, 7] (by decide) rfl rfl (fun H locs hP hD hS => ?_)
        refine lv_iconst (v := 1) hx hb dX6_start_167 (by decide) ?_
        refine lv_icmp_ne (tgt := 178) hx hb dX6_start_168 (by decide) (fun c168 => ?_) (fun c168 => ?_)
        · have hok := k_neg c168 hok
          refine lv_iconst (v := 0) hx hb dX6_start_178 (by decide) ?_
          exact J179 (0 : Int32) (vW_146 8) vW_cells_146 vW_who_146 (upd vW_146 7 ((vW_49 7) ||| t0_146)) H locs ls hP hD hS (lv_sub hl [0, 1, 2] rfl) hok
        · have hok := k_pos c168 hok
          refine lv_iconst (v := 1) hx hb dX6_start_171 (by decide) ?_
          refine lv_iload hx hb dX6_start_172 (lv_at hl 2 rfl) ?_
          refine lv_ishl hx hb dX6_start_174 ?_
          refine lv_goto (tgt := 179) hx hb dX6_start_175 (by decide) ?_
          exact J179 (isl (1 : Int32) y4_49) (vW_146 8) vW_cells_146 vW_who_146 (upd vW_146 7 ((vW_49 7) ||| t0_146)) H locs ls hP hD hS (lv_sub hl [0, 1, 2] rfl) hok
      have J123 : ∀ (y5_123 : Int32) (y6_123 : Int32) (t0_123 : Int32) (vW_cells_123 : Nat → Int32) (vW_who_123 : Nat → Int32), ∀ (H : Heap) (locs : List Loc) (ls : Array Slot), va_P D vwCl (wX6_start cy aW aH aD qW aH0 qD qH aH vW_49 vD vD_now vW_who_123 vH vH_kinds vW_cells_123 vH_sorts) H → va_D A (wX6_start cy aW aH aD qW aH0 qD qH aH vW_49 vD vD_now vW_who_123 vH vH_kinds vW_cells_123 vH_sorts) → va_S A s.heap H locs → lv_has ls 7 [(0, .ref aW), (2, .ref aD), (4, .int y4_49), (5, .int y5_123), (6, .int y6_123)] → fX6_start_J123 vH vH_sorts y4_49 vW_49 y5_123 y6_123 t0_123 vW_cells_123 vW_who_123 = some y49 → W p l e ({ frames := 2, cells := 0, slots := 0, locals := 42 } : Room) s m ([.ref aW, .ref aH, .ref aD, .int x3] : List Value).toArray below meth c H locs 0 0 Q (F0 m 123 ls [.int t0_123, .int (vW_49 6), .ref aW]) := by
        intro y5_123 y6_123 t0_123 vW_cells_123 vW_who_123 H locs ls hP hD hS hl hok
        unfold fX6_start_J123 at hok
        refine lv_ior hx hb dX6_start_123 ?_
        refine va_put (D := D) (ci := 5) (v := .int ((vW_49 6) ||| t0_123)) (ty := .int) (C := RX6) (T := TX6) (N := 13) hx hb ht0 niX6 tyX6 tyX6_ok nmX6 hown hK hP hD hS 0 rfl rfl 6 (by decide) (ht0 _ wd106) (fun _ h9 => h9) rfl (by decide +kernel) rfl rfl (Nat.le_of_ble_eq_true rfl) dX6_start_124 (fun H locs hP hD hS => ?_)
        have hP : va_P D vwCl (wX6_start cy aW aH aD qW aH0 qD qH aH (upd vW_49 6 ((vW_49 6) ||| t0_123)) vD vD_now vW_who_123 vH vH_kinds vW_cells_123 vH_sorts) H := hP
        have hD : va_D A (wX6_start cy aW aH aD qW aH0 qD qH aH (upd vW_49 6 ((vW_49 6) ||| t0_123)) vD vD_now vW_who_123 vH vH_kinds vW_cells_123 vH_sorts) := hD
        refine lv_aload_n hx hb dX6_start_127 rfl (lv_at hl 0 rfl) ?_
        refine lv_dup hx hb dX6_start_128 rfl ?_
        refine va_get (D := D) (ci := 5) (v := .int (vW_49 7)) (C := RX6) (T := TX6) (N := 13) hx hb ht0 niX6 hown hK hP 0 rfl rfl 7 (by decide) (ht0 _ wd100) (fun _ h9 => h9) rfl dX6_start_129 ?_
        refine lv_iload hx hb dX6_start_132 (lv_at hl 4 rfl) ?_
        refine lv_iconst (v := 1) hx hb dX6_start_134 (by decide) ?_
        refine lv_icmp_ne (tgt := 145) hx hb dX6_start_135 (by decide) (fun c135 => ?_) (fun c135 => ?_)
        · have hok := k_neg c135 hok
          refine lv_iconst (v := 0) hx hb dX6_start_145 (by decide) ?_
          exact J146 y5_123 (0 : Int32) vW_cells_123 vW_who_123 (upd vW_49 6 ((vW_49 6) ||| t0_123)) H locs ls hP hD hS (lv_sub hl [0, 1, 2, 3] rfl) hok
        · have hok := k_pos c135 hok
          refine lv_iconst (v := 1) hx hb dX6_start_138 (by decide) ?_
          refine lv_iload hx hb dX6_start_139 (lv_at hl 2 rfl) ?_
          refine lv_ishl hx hb dX6_start_141 ?_
          refine lv_goto (tgt := 146) hx hb dX6_start_142 (by decide) ?_
          exact J146 y5_123 (isl (1 : Int32) y4_49) vW_cells_123 vW_who_123 (upd vW_49 6 ((vW_49 6) ||| t0_123)) H locs ls hP hD hS (lv_sub hl [0, 1, 2, 3] rfl) hok
      unfold fX6_start_B49 at hok
      try dsimp only at hok
      refine lv_iload hx hb dX6_start_49 (lv_at hl 2 rfl) ?_
      refine lv_aload_n hx hb dX6_start_51 rfl (lv_at hl 0 rfl) ?_
      refine va_get (D := D) (ci := 5) (v := .ref aH) (C := RX6) (T := TX6) (N := 13) hx hb ht0 niX6 hown hK hP 0 rfl rfl 4 (by decide) (ht0 _ wd101) (fun _ h9 => h9) rfl dX6_start_52 ?_
      refine va_get (D := D) (ci := 3) (v := .int (vH 5)) (C := RX4) (T := TX4) (N := 20) hx hb ht0 niX4 hown hK hP 4 rfl rfl 5 (by decide) (ht0 _ wd107) (fun _ h9 => h9) rfl dX6_start_55 ?_
      refine lv_icmp_ge (tgt := 189) hx hb dX6_start_58 (by decide) (fun c58 => ?_) (fun c58 => ?_)
      · have hok := k_pos c58 hok
        obtain ⟨e49, hok, he49⟩ := ex_some hok
        have hok := hok.trans (congrArg some (hL49 _ he49))
        exact J189 vW_cells_49 vW_who_49 vW_49 H locs ls hP hD hS (lv_sub hl [] rfl) hok
      · have hok := k_neg c58 hok
        refine lv_iload hx hb dX6_start_61 (lv_at hl 2 rfl) ?_
        refine lv_bipush (v := 7) hx hb dX6_start_63 (by decide) ?_
        refine lv_icmp_ge (tgt := 189) hx hb dX6_start_65 (by decide) (fun c65 => ?_) (fun c65 => ?_)
        · have hok := k_pos c65 hok
          obtain ⟨e49, hok, he49⟩ := ex_some hok
          have hok := hok.trans (congrArg some (hL49 _ he49))
          exact J189 vW_cells_49 vW_who_49 vW_49 H locs ls hP hD hS (lv_sub hl [] rfl) hok
        · have hok := k_neg c65 hok
          refine lv_aload_n hx hb dX6_start_68 rfl (lv_at hl 1 rfl) ?_
          refine lv_iload hx hb dX6_start_69 (lv_at hl 2 rfl) ?_
          obtain ⟨r71, hc71, hok⟩ := k_bind hok
          refine kCi (wc := (wX1_cellOf cy aD qD vD vD_now)) (wc2 := (wX1_cellOf cy aD qD vD vD_now)) (wr := [(aW, oX6 vW_49 qW aH), (qW 1, rI cy 36 vW_who_49), (aH, oX4 vH qH), (qH 14, rI cy 7 vH_kinds), (qW 0, rI cy 7 vW_cells_49), (qH 8, rI cy 4 vH_sorts)]) (ws2 := (wX6_start cy aW aH aD qW aH0 qD qH aH vW_49 vD vD_now vW_who_49 vH vH_kinds vW_cells_49 vH_sorts)) (kRunV (As := [.int y4_49]) (rest := []) ⟨hx, hb, hml, hown, ht0⟩ (kX1_cellOf l D cy _ aD qD vD vD_now y4_49 r71 hc71 _ rfl) (cwV 1 ht0 (gV wd108 wd82 wd83 wd74 wd84) rfl rfl rfl (by decide +kernel) ⟨Nat.le_of_ble_eq_true rfl, Nat.le_of_ble_eq_true rfl⟩) hK hN hP hD [1, 2] rfl (by decide) 1 1 rfl rfl rfl hl.1 rfl (Nat.le_of_ble_eq_true rfl) dX6_start_71 ⟨Nat.zero_le _, Nat.zero_le _⟩) hP hD hS hA [1, 2] [0, 3, 4, 5, 6, 7] rfl rfl (by decide) (by decide) [0, 6, 7, 1, 2, 3, 4, 5] (by decide) rfl rfl (fun H locs hP hD hS => ?_)
          refine lv_istore (lv' := [(5, .int r71), (0, .ref aW), (2, .ref aD), (4, .int y4_49)]) hx hb dX6_start_74 hl (by decide) rfl (fun ls hl => ?_)
          refine lv_aload_n hx hb dX6_start_76 rfl (lv_at hl 1 rfl) ?_
          refine va_get (D := D) (ci := 5) (v := .ref aH) (C := RX6) (T := TX6) (N := 13) hx hb ht0 niX6 hown hK hP 0 rfl rfl 4 (by decide) (ht0 _ wd101) (fun _ h9 => h9) rfl dX6_start_77 ?_
          refine lv_iload hx hb dX6_start_80 (lv_at hl 3 rfl) ?_
          obtain ⟨r82, hc82, hok⟩ := k_bind hok
          refine kCi (wc := (wX4_kindOf cy aH qH vH vH_kinds)) (wc2 := (wX4_kindOf cy aH qH vH vH_kinds)) (wr := [(aW, oX6 vW_49 qW aH), (aD, oX1 vD qD), (qD 0, rI cy 9 vD_now), (qW 1, rI cy 36 vW_who_49), (qW 0, rI cy 7 vW_cells_49), (qH 8, rI cy 4 vH_sorts)]) (ws2 := (wX6_start cy aW aH aD qW aH0 qD qH aH vW_49 vD vD_now vW_who_49 vH vH_kinds vW_cells_49 vH_sorts)) (kRunV (As := [.int y4_49]) (rest := []) ⟨hx, hb, hml, hown, ht0⟩ (kX4_kindOf l D cy _ aH qH vH vH_kinds y4_49 r82 hc82 _ rfl) (cwV 1 ht0 (gV wd109 wd77 wd78 wd9 wd79) rfl rfl rfl (by decide +kernel) ⟨Nat.le_of_ble_eq_true rfl, Nat.le_of_ble_eq_true rfl⟩) hK hN hP hD [4, 5] rfl (by decide) 4 3 rfl rfl rfl hl.1 rfl (Nat.le_of_ble_eq_true rfl) dX6_start_82 ⟨Nat.zero_le _, Nat.zero_le _⟩) hP hD hS hA [4, 5] [0, 1, 2, 3, 6, 7] rfl rfl (by decide) (by decide) [0, 1, 2, 3, 6, 7, 4, 5] (by decide) rfl rfl (fun H locs hP hD hS => ?_)
          refine lv_istore (lv' := [(6, .int r82), (5, .int r71), (0, .ref aW), (2, .ref aD), (4, .int y4_49)]) hx hb dX6_start_85 hl (by decide) rfl (fun ls hl => ?_)
          refine lv_aload_n hx hb dX6_start_87 rfl (lv_at hl 2 rfl) ?_
          refine va_get (D := D) (ci := 5) (v := .ref (qW 0)) (C := RX6) (T := TX6) (N := 13) hx hb ht0 niX6 hown hK hP 0 rfl rfl 0 (by decide) (ht0 _ wd110) (fun _ h9 => h9) rfl dX6_start_88 ?_
          refine lv_iload hx hb dX6_start_91 (lv_at hl 4 rfl) ?_
          refine lv_iload hx hb dX6_start_93 (lv_at hl 1 rfl) ?_
          obtain ⟨g95, hok⟩ := gd_some hok
          refine va_iast hx hb hK hP hD hS 6 0 rfl rfl (okI_in g95) dX6_start_95 (fun H locs hP hD hS => ?_)
          have hP : va_P D vwCl (wX6_start cy aW aH aD qW aH0 qD qH aH vW_49 vD vD_now vW_who_49 vH vH_kinds (upd vW_cells_49 y4_49.toNatClampNeg r71) vH_sorts) H := hP
          have hD : va_D A (wX6_start cy aW aH aD qW aH0 qD qH aH vW_49 vD vD_now vW_who_49 vH vH_kinds (upd vW_cells_49 y4_49.toNatClampNeg r71) vH_sorts) := hD
          refine lv_aload_n hx hb dX6_start_96 rfl (lv_at hl 2 rfl) ?_
          refine lv_iload hx hb dX6_start_97 (lv_at hl 4 rfl) ?_
          refine lv_iload hx hb dX6_start_99 (lv_at hl 1 rfl) ?_
          obtain ⟨vW_who_101, hc101, hok⟩ := k_bind hok
          refine kCv (wc := (wX6_seat cy aW qW aH aH vW_49 vW_who_49)) (wc2 := (wX6_seat cy aW qW aH aH vW_49 vW_who_101)) (wr := [(aD, oX1 vD qD), (qD 0, rI cy 9 vD_now), (aH, oX4 vH qH), (qH 14, rI cy 7 vH_kinds), (qW 0, rI cy 7 (upd vW_cells_49 y4_49.toNatClampNeg r71)), (qH 8, rI cy 4 vH_sorts)]) (ws2 := (wX6_start cy aW aH aD qW aH0 qD qH aH vW_49 vD vD_now vW_who_101 vH vH_kinds (upd vW_cells_49 y4_49.toNatClampNeg r71) vH_sorts)) (kRunV (As := [.int y4_49, .int r71]) (rest := []) ⟨hx, hb, hml, hown, ht0⟩ (kX6_seat l D cy _ aW qW aH vW_49 vW_who_49 y4_49 r71 vW_who_101 hc101 _ rfl) (cwV 2 ht0 (gV wd111 wd112 wd113 wd114 wd115) rfl rfl rfl (by decide +kernel) ⟨Nat.le_of_ble_eq_true rfl, Nat.le_of_ble_eq_true rfl⟩) hK hN hP hD [0, 3] rfl (by decide) 0 5 rfl rfl rfl hl.1 rfl (Nat.le_of_ble_eq_true rfl) dX6_start_101 ⟨Nat.zero_le _, Nat.zero_le _⟩) hP hD hS hA [0, 3] [1, 2, 4, 5, 6, 7] rfl rfl (by decide) (by decide) [6, 0, 1, 7, 2, 3, 4, 5] (by decide) rfl rfl (fun H locs hP hD hS => ?_)
          refine lv_aload_n hx hb dX6_start_104 rfl (lv_at hl 2 rfl) ?_
          refine lv_dup hx hb dX6_start_105 rfl ?_
          refine va_get (D := D) (ci := 5) (v := .int (vW_49 6)) (C := RX6) (T := TX6) (N := 13) hx hb ht0 niX6 hown hK hP 0 rfl rfl 6 (by decide) (ht0 _ wd106) (fun _ h9 => h9) rfl dX6_start_106 ?_
          refine lv_iload hx hb dX6_start_109 (lv_at hl 0 rfl) ?_
          refine lv_iconst (v := 2) hx hb dX6_start_111 (by decide) ?_
          refine lv_icmp_ne (tgt := 122) hx hb dX6_start_112 (by decide) (fun c112 => ?_) (fun c112 => ?_)
          · have hok := k_neg c112 hok
            refine lv_iconst (v := 0) hx hb dX6_start_122 (by decide) ?_
            exact J123 r71 r82 (0 : Int32) (upd vW_cells_49 y4_49.toNatClampNeg r71) vW_who_101 H locs ls hP hD hS (lv_sub hl [2, 3, 4, 1, 0] rfl) hok
          · have hok := k_pos c112 hok
            refine lv_iconst (v := 1) hx hb dX6_start_115 (by decide) ?_
            refine lv_iload hx hb dX6_start_116 (lv_at hl 4 rfl) ?_
            refine lv_ishl hx hb dX6_start_118 ?_
            refine lv_goto (tgt := 123) hx hb dX6_start_119 (by decide) ?_
            exact J123 r71 r82 (isl (1 : Int32) y4_49) (upd vW_cells_49 y4_49.toNatClampNeg r71) vW_who_101 H locs ls hP hD hS (lv_sub hl [2, 3, 4, 1, 0] rfl) hok
  unfold fX6_start at hok
  obtain ⟨H, hH⟩ : ∃ H, H = s.heap := ⟨_, rfl⟩
  obtain ⟨locs, hlc⟩ : ∃ x : List Loc, x = [] := ⟨_, rfl⟩
  have hP : va_P D vwCl (wX6_start cy aW aH aD qW aH0 qD qH aH0 vW vD vD_now vW_who vH vH_kinds vW_cells vH_sorts) H := by rw [hH]; exact hP
  have hS : va_S A s.heap H locs := by rw [hH, hlc]; exact hS
  rw [show W p l e _ s m _ below meth c s.heap [] = W p l e _ s m _ below meth c H locs from by rw [hH, hlc]]
  refine lv_aload_n hx hb dX6_start_0 rfl (lv_at hl 0 rfl) ?_
  refine lv_aload_n hx hb dX6_start_1 rfl (lv_at hl 1 rfl) ?_
  refine va_put (D := D) (ci := 5) (v := .ref aH) (ty := (.object "NightRound$House")) (C := RX6) (T := TX6) (N := 13) hx hb ht0 niX6 tyX6 tyX6_ok nmX6 hown hK hP hD hS 0 rfl rfl 4 (by decide) (ht0 _ wd101) (fun _ h9 => h9) rfl (by decide +kernel) rfl rfl (Nat.le_of_ble_eq_true rfl) dX6_start_2 (fun H locs hP hD hS => ?_)
  have hP : va_P D vwCl (wX6_start cy aW aH aD qW aH0 qD qH aH vW vD vD_now vW_who vH vH_kinds vW_cells vH_sorts) H := hP
  have hD : va_D A (wX6_start cy aW aH aD qW aH0 qD qH aH vW vD vD_now vW_who vH vH_kinds vW_cells vH_sorts) := hD
  refine lv_aload_n hx hb dX6_start_5 rfl (lv_at hl 0 rfl) ?_
  refine lv_aload_n hx hb dX6_start_6 rfl (lv_at hl 2 rfl) ?_
  obtain ⟨r7, hc7, hok⟩ := k_bind hok
  refine kCi (wc := (wX1_nightNow cy aD qD vD vD_now)) (wc2 := (wX1_nightNow cy aD qD vD vD_now)) (wr := [(aW, oX6 vW qW aH), (qW 1, rI cy 36 vW_who), (aH, oX4 vH qH), (qH 14, rI cy 7 vH_kinds), (qW 0, rI cy 7 vW_cells), (qH 8, rI cy 4 vH_sorts)]) (ws2 := (wX6_start cy aW aH aD qW aH0 qD qH aH vW vD vD_now vW_who vH vH_kinds vW_cells vH_sorts)) (kRunV (As := []) (rest := [.ref aW]) ⟨hx, hb, hml, hown, ht0⟩ (kX1_nightNow l D cy _ aD qD vD vD_now r7 hc7 _ rfl) (cwV 0 ht0 (gV wd116 wd117 wd118 wd74 wd119) rfl rfl rfl (by decide +kernel) ⟨Nat.le_of_ble_eq_true rfl, Nat.le_of_ble_eq_true rfl⟩) hK hN hP hD [1, 2] rfl (by decide) 1 1 rfl rfl rfl hl.1 rfl (Nat.le_of_ble_eq_true rfl) dX6_start_7 ⟨Nat.zero_le _, Nat.zero_le _⟩) hP hD hS hA [1, 2] [0, 3, 4, 5, 6, 7] rfl rfl (by decide) (by decide) [0, 6, 7, 1, 2, 3, 4, 5] (by decide) rfl rfl (fun H locs hP hD hS => ?_)
  refine va_put (D := D) (ci := 5) (v := .int r7) (ty := .int) (C := RX6) (T := TX6) (N := 13) hx hb ht0 niX6 tyX6 tyX6_ok nmX6 hown hK hP hD hS 0 rfl rfl 5 (by decide) (ht0 _ wd120) (fun _ h9 => h9) rfl (by decide +kernel) rfl rfl (Nat.le_of_ble_eq_true rfl) dX6_start_10 (fun H locs hP hD hS => ?_)
  have hP : va_P D vwCl (wX6_start cy aW aH aD qW aH0 qD qH aH (upd vW 5 r7) vD vD_now vW_who vH vH_kinds vW_cells vH_sorts) H := hP
  have hD : va_D A (wX6_start cy aW aH aD qW aH0 qD qH aH (upd vW 5 r7) vD vD_now vW_who vH vH_kinds vW_cells vH_sorts) := hD
  refine lv_aload_n hx hb dX6_start_13 rfl (lv_at hl 0 rfl) ?_
  refine lv_aload_n hx hb dX6_start_14 rfl (lv_at hl 2 rfl) ?_
  obtain ⟨r15, hc15, hok⟩ := k_bind hok
  refine kCi (wc := (wX1_heldBits cy aD qD vD vD_now)) (wc2 := (wX1_heldBits cy aD qD vD vD_now)) (wr := [(aW, oX6 (upd vW 5 r7) qW aH), (qW 1, rI cy 36 vW_who), (aH, oX4 vH qH), (qH 14, rI cy 7 vH_kinds), (qW 0, rI cy 7 vW_cells), (qH 8, rI cy 4 vH_sorts)]) (ws2 := (wX6_start cy aW aH aD qW aH0 qD qH aH (upd vW 5 r7) vD vD_now vW_who vH vH_kinds vW_cells vH_sorts)) (kRunV (As := []) (rest := [.ref aW]) ⟨hx, hb, hml, hown, ht0⟩ (kX1_heldBits l D cy _ aD qD vD vD_now r15 hc15 _ rfl) (cwV 0 ht0 (gV wd121 wd122 wd123 wd74 wd124) rfl rfl rfl (by decide +kernel) ⟨Nat.le_of_ble_eq_true rfl, Nat.le_of_ble_eq_true rfl⟩) hK hN hP hD [1, 2] rfl (by decide) 1 1 rfl rfl rfl hl.1 rfl (Nat.le_of_ble_eq_true rfl) dX6_start_15 ⟨Nat.zero_le _, Nat.zero_le _⟩) hP hD hS hA [1, 2] [0, 3, 4, 5, 6, 7] rfl rfl (by decide) (by decide) [0, 6, 7, 1, 2, 3, 4, 5] (by decide) rfl rfl (fun H locs hP hD hS => ?_)
  refine lv_iload_n hx hb dX6_start_18 rfl (lv_at hl 3 rfl) ?_
  refine lv_ior hx hb dX6_start_19 ?_
  refine va_put (D := D) (ci := 5) (v := .int (r15 ||| x3)) (ty := .int) (C := RX6) (T := TX6) (N := 13) hx hb ht0 niX6 tyX6 tyX6_ok nmX6 hown hK hP hD hS 0 rfl rfl 6 (by decide) (ht0 _ wd106) (fun _ h9 => h9) rfl (by decide +kernel) rfl rfl (Nat.le_of_ble_eq_true rfl) dX6_start_20 (fun H locs hP hD hS => ?_)
  have hP : va_P D vwCl (wX6_start cy aW aH aD qW aH0 qD qH aH (upd (upd vW 5 r7) 6 (r15 ||| x3)) vD vD_now vW_who vH vH_kinds vW_cells vH_sorts) H := hP
  have hD : va_D A (wX6_start cy aW aH aD qW aH0 qD qH aH (upd (upd vW 5 r7) 6 (r15 ||| x3)) vD vD_now vW_who vH vH_kinds vW_cells vH_sorts) := hD
  refine lv_aload_n hx hb dX6_start_23 rfl (lv_at hl 0 rfl) ?_
  refine lv_iconst (v := 0) hx hb dX6_start_24 (by decide) ?_
  refine va_put (D := D) (ci := 5) (v := .int 0) (ty := .int) (C := RX6) (T := TX6) (N := 13) hx hb ht0 niX6 tyX6 tyX6_ok nmX6 hown hK hP hD hS 0 rfl rfl 7 (by decide) (ht0 _ wd100) (fun _ h9 => h9) rfl (by decide +kernel) rfl rfl (Nat.le_of_ble_eq_true rfl) dX6_start_25 (fun H locs hP hD hS => ?_)
  have hP : va_P D vwCl (wX6_start cy aW aH aD qW aH0 qD qH aH (upd (upd (upd vW 5 r7) 6 (r15 ||| x3)) 7 (0 : Int32)) vD vD_now vW_who vH vH_kinds vW_cells vH_sorts) H := hP
  have hD : va_D A (wX6_start cy aW aH aD qW aH0 qD qH aH (upd (upd (upd vW 5 r7) 6 (r15 ||| x3)) 7 (0 : Int32)) vD vD_now vW_who vH vH_kinds vW_cells vH_sorts) := hD
  refine lv_aload_n hx hb dX6_start_28 rfl (lv_at hl 0 rfl) ?_
  refine lv_iconst (v := 0) hx hb dX6_start_29 (by decide) ?_
  refine va_put (D := D) (ci := 5) (v := .int 0) (ty := .int) (C := RX6) (T := TX6) (N := 13) hx hb ht0 niX6 tyX6 tyX6_ok nmX6 hown hK hP hD hS 0 rfl rfl 8 (by decide) (ht0 _ wd99) (fun _ h9 => h9) rfl (by decide +kernel) rfl rfl (Nat.le_of_ble_eq_true rfl) dX6_start_30 (fun H locs hP hD hS => ?_)
  have hP : va_P D vwCl (wX6_start cy aW aH aD qW aH0 qD qH aH (upd (upd (upd (upd vW 5 r7) 6 (r15 ||| x3)) 7 (0 : Int32)) 8 (0 : Int32)) vD vD_now vW_who vH vH_kinds vW_cells vH_sorts) H := hP
  have hD : va_D A (wX6_start cy aW aH aD qW aH0 qD qH aH (upd (upd (upd (upd vW 5 r7) 6 (r15 ||| x3)) 7 (0 : Int32)) 8 (0 : Int32)) vD vD_now vW_who vH vH_kinds vW_cells vH_sorts) := hD
  refine lv_aload_n hx hb dX6_start_33 rfl (lv_at hl 0 rfl) ?_
  refine lv_iconst (v := -1) hx hb dX6_start_34 (by decide) ?_
  refine va_put (D := D) (ci := 5) (v := .int (-1)) (ty := .int) (C := RX6) (T := TX6) (N := 13) hx hb ht0 niX6 tyX6 tyX6_ok nmX6 hown hK hP hD hS 0 rfl rfl 9 (by decide) (ht0 _ wd125) (fun _ h9 => h9) rfl (by decide +kernel) rfl rfl (Nat.le_of_ble_eq_true rfl) dX6_start_35 (fun H locs hP hD hS => ?_)
  have hP : va_P D vwCl (wX6_start cy aW aH aD qW aH0 qD qH aH (upd (upd (upd (upd (upd vW 5 r7) 6 (r15 ||| x3)) 7 (0 : Int32)) 8 (0 : Int32)) 9 (-1 : Int32)) vD vD_now vW_who vH vH_kinds vW_cells vH_sorts) H := hP
  have hD : va_D A (wX6_start cy aW aH aD qW aH0 qD qH aH (upd (upd (upd (upd (upd vW 5 r7) 6 (r15 ||| x3)) 7 (0 : Int32)) 8 (0 : Int32)) 9 (-1 : Int32)) vD vD_now vW_who vH vH_kinds vW_cells vH_sorts) := hD
  refine lv_aload_n hx hb dX6_start_38 rfl (lv_at hl 0 rfl) ?_
  refine va_get (D := D) (ci := 5) (v := .ref (qW 1)) (C := RX6) (T := TX6) (N := 13) hx hb ht0 niX6 hown hK hP 0 rfl rfl 1 (by decide) (ht0 _ wd92) (fun _ h9 => h9) rfl dX6_start_39 ?_
  refine lv_iconst (v := -1) hx hb dX6_start_42 (by decide) ?_
  obtain ⟨p0_43, hc43, hok⟩ := k_bind hok
  refine kCv (wc := (wJ7_fill_53178 cy (qW 1) 36 vW_who)) (wc2 := (wJ7_fill_53178 cy (qW 1) 36 p0_43)) (wr := [(aW, oX6 (upd (upd (upd (upd (upd vW 5 r7) 6 (r15 ||| x3)) 7 (0 : Int32)) 8 (0 : Int32)) 9 (-1 : Int32)) qW aH), (aD, oX1 vD qD), (qD 0, rI cy 9 vD_now), (aH, oX4 vH qH), (qH 14, rI cy 7 vH_kinds), (qW 0, rI cy 7 vW_cells), (qH 8, rI cy 4 vH_sorts)]) (ws2 := (wX6_start cy aW aH aD qW aH0 qD qH aH (upd (upd (upd (upd (upd vW 5 r7) 6 (r15 ||| x3)) 7 (0 : Int32)) 8 (0 : Int32)) 9 (-1 : Int32)) vD vD_now p0_43 vH vH_kinds vW_cells vH_sorts)) (kRunS (As := [.ref (qW 1), .int (-1)]) (rest := []) ⟨hx, hb, hml, hown, ht0⟩ (kJ7_fill_53178 l D cy _ (qW 1) 36 vW_who (-1 : Int32) p0_43 hc43 _ rfl) (va_cwS 2 ht0 (gS wd126 wd30 wd31 wd32) rfl rfl rfl (by decide +kernel) ⟨Nat.le_of_ble_eq_true rfl, Nat.le_of_ble_eq_true rfl⟩) hK hN hP hD [3] rfl (by decide) rfl hl.1 rfl (Nat.le_of_ble_eq_true rfl) dX6_start_43 ⟨Nat.zero_le _, Nat.zero_le _⟩) hP hD hS hA [3] [0, 1, 2, 4, 5, 6, 7] rfl rfl (by decide) (by decide) [0, 1, 2, 7, 3, 4, 5, 6] (by decide) rfl rfl (fun H locs hP hD hS => ?_)
  refine lv_iconst (v := 0) hx hb dX6_start_46 (by decide) ?_
  refine lv_istore (lv' := [(4, .int 0), (0, .ref aW), (1, .ref aH), (2, .ref aD), (3, .int x3)]) hx hb dX6_start_47 hl (by decide) rfl (fun ls hl => ?_)
  exact L49 5000 (0 : Int32) vW_cells p0_43 (upd (upd (upd (upd (upd vW 5 r7) 6 (r15 ||| x3)) 7 (0 : Int32)) 8 (0 : Int32)) 9 (-1 : Int32)) H locs ls hP hD hS (lv_sub hl [1, 3, 0] rfl) hok
